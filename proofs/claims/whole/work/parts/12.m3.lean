/-! WalkHouseModel.valuesOf(III[I)I (W) -/
theorem hdX9_valuesOf : yX9_valuesOf.cls = RX9 ∧ yX9_valuesOf.cls ≠ "java/lang/invoke/MethodHandle" ∧ yX9_valuesOf.cls ≠ "java/lang/invoke/VarHandle" ∧ (parseMethodDescriptor yX9_valuesOf.desc).map (fun d => d.parameters.length) = some 4 := by decide +kernel
def fX9_valuesOf_b11_s  (k11 : Mm → Int32 → Int32 → Nat → Int32 → Int32 → Option (Mm × Int32)) (mem : Mm) (x1 : Int32) (x3 : Int32) (x4 : Nat) (x5 : Int32) (x6 : Int32) : Option (Mm × Int32) :=
  if (mem 0 6) ≤ x6 then some (mem, x5) else gd x6 40 (if (mem 3 x6.toNatClampNeg) = x1 then gd x6 40 (if (mem 5 x6.toNatClampNeg) ≤ x3 then k11 mem x1 x3 x4 x5 (x6 + (1 : Int32)) else gd x6 40 (gd x5 41 (wk mem x4 x5.toNatClampNeg (mem 4 x6.toNatClampNeg) (fun m8 => k11 m8 x1 x3 x4 (x5 + (1 : Int32)) (x6 + (1 : Int32)))))) else k11 mem x1 x3 x4 x5 (x6 + (1 : Int32)))
def fX9_valuesOf_b11  : Nat → Mm → Int32 → Int32 → Nat → Int32 → Int32 → Option (Mm × Int32)
  | 0 => fun _ _ _ _ _ _ => none
  | n + 1 => fX9_valuesOf_b11_s  (fX9_valuesOf_b11  n)
set_option maxRecDepth 100000 in
set_option maxHeartbeats 4000000 in
theorem wX9_valuesOf_b11_s {p : Program} {l : Launch} {e : Env} {s : State} {m : MethodId} {args : Array Value} {below : List Frame} {meth : Method} {c : Code} {D : va_G} {ca : Nat → ClassId} {ad : Nat → Nat} {H : Heap} {locs : List Loc} {ls : Array Slot} {mem : Mm} {x1 : Int32} {x3 : Int32} {x4 : Nat} {x5 : Int32} {x6 : Int32}  {k11 : Mm → Int32 → Int32 → Nat → Int32 → Int32 → Option (Mm × Int32)} {mem' : Mm} {r : Int32} (X : CallFix p m c cX9_valuesOf 7 s args TT RX9) (M : Mt meth (some .int))  (hk11 : ∀ (mem : Mm) (x1 : Int32) (x3 : Int32) (x4 : Nat) (x5 : Int32) (x6 : Int32) (H : Heap) (locs : List Loc) (ls : Array Slot) (hx4 : layM[x4]? = some (.inl (0, 41))), Wd D ca ad layM (AA ad layM.length) s.heap s mem H locs → lv_has ls 7 [(0, .ref (ad 0)), (1, .int x1), (3, .int x3), (4, .ref (ad x4)), (5, .int x5), (6, .int x6)] → k11 mem x1 x3 x4 x5 x6 = some (mem', r) → W p l e (rmx 0 0) s m args below meth c H locs 0 0 (EndI D ca ad layM mem' r below args s) (F0 m 11 ls [])) (hx4 : layM[x4]? = some (.inl (0, 41))) (w : Wd D ca ad layM (AA ad layM.length) s.heap s mem H locs) (hl : lv_has ls 7 [(0, .ref (ad 0)), (1, .int x1), (3, .int x3), (4, .ref (ad x4)), (5, .int x5), (6, .int x6)]) (h : fX9_valuesOf_b11_s  k11 mem x1 x3 x4 x5 x6 = some (mem', r)) : W p l e (rmx 0 0) s m args below meth c H locs 0 0 (EndI D ca ad layM mem' r below args s) (F0 m 11 ls []) := by
  unfold fX9_valuesOf_b11_s at h
  refine lv_iload X.1 X.2.1 dX9_valuesOf_11 (lv_at hl 5 rfl) ?_
  refine lv_aload_n X.1 X.2.1 dX9_valuesOf_13 rfl (lv_at hl 0 rfl) ?_
  refine r_get X w lyM_0 rfl inT9 6 rfl (by decide) rfl tw_908 dX9_valuesOf_14 ?_
  refine lv_icmp_ge (tgt := 63) X.1 X.2.1 dX9_valuesOf_17 (by decide) (fun c1 => ?_) (fun c1 => ?_)
  · rw [if_pos c1] at h
    refine lv_iload X.1 X.2.1 dX9_valuesOf_63 (lv_at hl 4 rfl) ?_
    obtain ⟨rfl, rfl⟩ := Prod.mk.inj (Option.some.inj h)
    exact r_iret X M w dX9_valuesOf_65
  · rw [if_neg c1] at h
    refine lv_aload_n X.1 X.2.1 dX9_valuesOf_20 rfl (lv_at hl 0 rfl) ?_
    refine r_getr (b2 := 3) X w lyM_0 rfl inT9 3 rfl rfl (by decide) rfl tw_905 dX9_valuesOf_21 ?_
    refine lv_iload X.1 X.2.1 dX9_valuesOf_24 (lv_at hl 5 rfl) ?_
    obtain ⟨hi2, h⟩ := gd_some h
    refine r_iald X w lyM_3 hi2 dX9_valuesOf_26 ?_
    refine lv_iload_n X.1 X.2.1 dX9_valuesOf_27 rfl (lv_at hl 1 rfl) ?_
    refine lv_icmp_ne (tgt := 57) X.1 X.2.1 dX9_valuesOf_28 (by decide) (fun c3 => ?_) (fun c3 => ?_)
    · rw [if_neg c3] at h
      refine lv_iinc (v := (x6 + (1 : Int32))) (lv' := [(6, .int (x6 + (1 : Int32))), (0, .ref (ad 0)), (1, .int x1), (3, .int x3), (4, .ref (ad x4)), (5, .int x5)]) X.1 X.2.1 dX9_valuesOf_57 hl (k := 5) rfl rfl (by decide) rfl (fun ls hl => ?_)
      refine lv_goto (tgt := 11) X.1 X.2.1 dX9_valuesOf_60 (by decide) ?_
      exact hk11 _ _ _ _ _ _ H locs ls hx4 w (lv_sub hl [1, 2, 3, 4, 5, 0] rfl) h
    · rw [if_pos c3] at h
      refine lv_aload_n X.1 X.2.1 dX9_valuesOf_31 rfl (lv_at hl 0 rfl) ?_
      refine r_getr (b2 := 5) X w lyM_0 rfl inT9 5 rfl rfl (by decide) rfl tw_907 dX9_valuesOf_32 ?_
      refine lv_iload X.1 X.2.1 dX9_valuesOf_35 (lv_at hl 5 rfl) ?_
      obtain ⟨hi4, h⟩ := gd_some h
      refine r_iald X w lyM_5 hi4 dX9_valuesOf_37 ?_
      refine lv_iload_n X.1 X.2.1 dX9_valuesOf_38 rfl (lv_at hl 2 rfl) ?_
      refine lv_icmp_le (tgt := 57) X.1 X.2.1 dX9_valuesOf_39 (by decide) (fun c5 => ?_) (fun c5 => ?_)
      · rw [if_pos c5] at h
        refine lv_iinc (v := (x6 + (1 : Int32))) (lv' := [(6, .int (x6 + (1 : Int32))), (0, .ref (ad 0)), (1, .int x1), (3, .int x3), (4, .ref (ad x4)), (5, .int x5)]) X.1 X.2.1 dX9_valuesOf_57 hl (k := 5) rfl rfl (by decide) rfl (fun ls hl => ?_)
        refine lv_goto (tgt := 11) X.1 X.2.1 dX9_valuesOf_60 (by decide) ?_
        exact hk11 _ _ _ _ _ _ H locs ls hx4 w (lv_sub hl [1, 2, 3, 4, 5, 0] rfl) h
      · rw [if_neg c5] at h
        refine lv_aload X.1 X.2.1 dX9_valuesOf_42 (lv_at hl 3 rfl) ?_
        refine lv_iload X.1 X.2.1 dX9_valuesOf_44 (lv_at hl 4 rfl) ?_
        refine lv_aload_n X.1 X.2.1 dX9_valuesOf_46 rfl (lv_at hl 0 rfl) ?_
        refine r_getr (b2 := 4) X w lyM_0 rfl inT9 4 rfl rfl (by decide) rfl tw_906 dX9_valuesOf_47 ?_
        refine lv_iload X.1 X.2.1 dX9_valuesOf_50 (lv_at hl 5 rfl) ?_
        obtain ⟨hi6, h⟩ := gd_some h
        refine r_iald X w lyM_4 hi6 dX9_valuesOf_52 ?_
        obtain ⟨hi7, h⟩ := gd_some h
        refine r_iast X w hx4 hi7 dX9_valuesOf_53 (fun H locs w => ?_)
        obtain ⟨m8, em8, h⟩ := wk_some h
        rw [em8] at w
        refine lv_iinc (v := (x5 + (1 : Int32))) (lv' := [(5, .int (x5 + (1 : Int32))), (0, .ref (ad 0)), (1, .int x1), (3, .int x3), (4, .ref (ad x4)), (6, .int x6)]) X.1 X.2.1 dX9_valuesOf_54 hl (k := 4) rfl rfl (by decide) rfl (fun ls hl => ?_)
        refine lv_iinc (v := (x6 + (1 : Int32))) (lv' := [(6, .int (x6 + (1 : Int32))), (5, .int (x5 + (1 : Int32))), (0, .ref (ad 0)), (1, .int x1), (3, .int x3), (4, .ref (ad x4))]) X.1 X.2.1 dX9_valuesOf_57 hl (k := 5) rfl rfl (by decide) rfl (fun ls hl => ?_)
        refine lv_goto (tgt := 11) X.1 X.2.1 dX9_valuesOf_60 (by decide) ?_
        exact hk11 _ _ _ _ _ _ H locs ls hx4 w (lv_sub hl [2, 3, 4, 5, 1, 0] rfl) h
set_option maxRecDepth 100000 in
set_option maxHeartbeats 4000000 in
theorem wX9_valuesOf_b11 {p : Program} {l : Launch} {e : Env} {s : State} {m : MethodId} {args : Array Value} {below : List Frame} {meth : Method} {c : Code} {D : va_G} {ca : Nat → ClassId} {ad : Nat → Nat}  {mem' : Mm} {r : Int32} (X : CallFix p m c cX9_valuesOf 7 s args TT RX9) (M : Mt meth (some .int))  : ∀ (n : Nat) (mem : Mm) (x1 : Int32) (x3 : Int32) (x4 : Nat) (x5 : Int32) (x6 : Int32) (H : Heap) (locs : List Loc) (ls : Array Slot) (hx4 : layM[x4]? = some (.inl (0, 41))) (_ : Wd D ca ad layM (AA ad layM.length) s.heap s mem H locs) (_ : lv_has ls 7 [(0, .ref (ad 0)), (1, .int x1), (3, .int x3), (4, .ref (ad x4)), (5, .int x5), (6, .int x6)]) (_ : fX9_valuesOf_b11  n mem x1 x3 x4 x5 x6 = some (mem', r)), W p l e (rmx 0 0) s m args below meth c H locs 0 0 (EndI D ca ad layM mem' r below args s) (F0 m 11 ls []) := by
  intro n
  induction n with
  | zero => intro mem x1 x3 x4 x5 x6 H locs ls hx4 w hl h; exact (nofun : (none : Option (Mm × Int32)) = _ → _) h
  | succ n ih => intro mem x1 x3 x4 x5 x6 H locs ls hx4 w hl h; exact wX9_valuesOf_b11_s X M  ih hx4 w hl h
def fX9_valuesOf (mem : Mm) (a1 : Int32) (a2 : Int32) (a3 : Int32) (a4 : Nat) : Option (Mm × Int32) :=
  gd (0 : Int32) 41 (wk mem a4 (0 : Int32).toNatClampNeg a2 (fun m2 => fX9_valuesOf_b11 2000 m2 a1 a3 a4 (1 : Int32) (0 : Int32)))
set_option maxRecDepth 100000 in
set_option maxHeartbeats 4000000 in
theorem kX9_valuesOf (l : Launch) (D : va_G) (ca : Nat → ClassId) (ad : Nat → Nat) (mem : Mm) (a1 : Int32) (a2 : Int32) (a3 : Int32) (a4 : Nat) (h4 : layM[a4]? = some (.inl (0, 41))) {mem' : Mm} {r : Int32} (h : fX9_valuesOf mem a1 a2 a3 a4 = some (mem', r)) : CtI l yX9_valuesOf cX9_valuesOf 7 (some .int) (rmx 0 0) D ca ad layM mem [.ref (ad 0), .int a1, .int a2, .int a3, .ref (ad a4)] mem' r := by
  refine CtI.of (by decide) (Nat.le_of_ble_eq_true rfl) ?_
  intro p e s m args below meth c H locs ls X M w hl
  replace X : CallFix p m c cX9_valuesOf 7 s args TT RX9 := X
  replace hl : lv_has ls 7 [(0, .ref (ad 0)), (1, .int a1), (2, .int a2), (3, .int a3), (4, .ref (ad a4))] := hl
  unfold fX9_valuesOf at h
  refine lv_aload X.1 X.2.1 dX9_valuesOf_0 (lv_at hl 4 rfl) ?_
  refine lv_iconst (v := (0 : Int32)) X.1 X.2.1 dX9_valuesOf_2 (by decide) ?_
  refine lv_iload_n X.1 X.2.1 dX9_valuesOf_3 rfl (lv_at hl 2 rfl) ?_
  obtain ⟨hi1, h⟩ := gd_some h
  refine r_iast X w h4 hi1 dX9_valuesOf_4 (fun H locs w => ?_)
  obtain ⟨m2, em2, h⟩ := wk_some h
  rw [em2] at w
  refine lv_iconst (v := (1 : Int32)) X.1 X.2.1 dX9_valuesOf_5 (by decide) ?_
  refine lv_istore (lv' := [(5, .int (1 : Int32)), (0, .ref (ad 0)), (1, .int a1), (2, .int a2), (3, .int a3), (4, .ref (ad a4))]) X.1 X.2.1 dX9_valuesOf_6 hl (by decide) rfl (fun ls hl => ?_)
  refine lv_iconst (v := (0 : Int32)) X.1 X.2.1 dX9_valuesOf_8 (by decide) ?_
  refine lv_istore (lv' := [(6, .int (0 : Int32)), (5, .int (1 : Int32)), (0, .ref (ad 0)), (1, .int a1), (2, .int a2), (3, .int a3), (4, .ref (ad a4))]) X.1 X.2.1 dX9_valuesOf_9 hl (by decide) rfl (fun ls hl => ?_)
  exact wX9_valuesOf_b11 X M _ _ _ _ _ _ _ H locs ls h4 w (lv_sub hl [2, 3, 5, 6, 1, 0] rfl) h
/-! WalkHouseModel.permits(IIIZ)V (W) -/
theorem hdX9_permits : yX9_permits.cls = RX9 ∧ yX9_permits.cls ≠ "java/lang/invoke/MethodHandle" ∧ yX9_permits.cls ≠ "java/lang/invoke/VarHandle" ∧ (parseMethodDescriptor yX9_permits.desc).map (fun d => d.parameters.length) = some 4 := by decide +kernel
def fX9_permits_b23  (mem : Mm) (x1 : Int32) (x2 : Int32) (x3 : Int32) : Option (Mm × Unit) :=
  nz (fX9_wide x3) (gd ((fX9_targetOf x1) + (x2 - x2 / (fX9_wide x3) * (fX9_wide x3))) 1100 (wk mem 12 ((fX9_targetOf x1) + (x2 - x2 / (fX9_wide x3) * (fX9_wide x3))).toNatClampNeg (1 : Int32) (fun m3 => some (m3, ()))))
set_option maxRecDepth 100000 in
set_option maxHeartbeats 4000000 in
theorem wX9_permits_b23 {p : Program} {l : Launch} {e : Env} {s : State} {m : MethodId} {args : Array Value} {below : List Frame} {meth : Method} {c : Code} {D : va_G} {ca : Nat → ClassId} {ad : Nat → Nat} {H : Heap} {locs : List Loc} {ls : Array Slot} {mem : Mm} {x1 : Int32} {x2 : Int32} {x3 : Int32}  {mem' : Mm} {r : Unit} (X : CallFix p m c cX9_permits 5 s args TT RX9) (M : Mt meth none)   (w : Wd D ca ad layM (AA ad layM.length) s.heap s mem H locs) (hl : lv_has ls 5 [(0, .ref (ad 0)), (1, .int x1), (2, .int x2), (3, .int x3)]) (h : fX9_permits_b23  mem x1 x2 x3 = some (mem', r)) : W p l e (rmx 1 20) s m args below meth c H locs 0 0 (EndV D ca ad layM mem' below args s) (F0 m 23 ls []) := by
  unfold fX9_permits_b23 at h
  refine lv_aload_n X.1 X.2.1 dX9_permits_23 rfl (lv_at hl 0 rfl) ?_
  refine r_getr (b2 := 12) X w lyM_0 rfl inT9 24 rfl rfl (by decide) rfl tw_926 dX9_permits_24 ?_
  refine lv_iload_n X.1 X.2.1 dX9_permits_27 rfl (lv_at hl 1 rfl) ?_
  refine r_cSi (As := [.int x1]) (rest := [.ref (ad 12)]) X w (kX9_targetOf  l D ca ad mem x1  rfl) (gTS tw_1087 tw_1088 tw_75 tw_1089) hdX9_targetOf (by decide) rfl hl.1 rfl (Nat.le_of_ble_eq_true rfl) dX9_permits_28 ⟨Nat.zero_le _, Nat.zero_le _⟩ (fun H locs w => ?_)
  refine lv_iload_n X.1 X.2.1 dX9_permits_31 rfl (lv_at hl 2 rfl) ?_
  refine lv_iload_n X.1 X.2.1 dX9_permits_32 rfl (lv_at hl 3 rfl) ?_
  refine r_cSi (As := [.int x3]) (rest := [.int x2, .int (fX9_targetOf x1), .ref (ad 12)]) X w (kX9_wide  l D ca ad mem x3  rfl) (gTS tw_1066 tw_1067 tw_75 tw_1068) hdX9_wide (by decide) rfl hl.1 rfl (Nat.le_of_ble_eq_true rfl) dX9_permits_33 ⟨Nat.zero_le _, Nat.zero_le _⟩ (fun H locs w => ?_)
  obtain ⟨hz1, h⟩ := nz_some h
  refine lv_irem X.1 X.2.1 dX9_permits_36 hz1 ?_
  refine lv_iadd X.1 X.2.1 dX9_permits_37 ?_
  refine lv_iconst (v := (1 : Int32)) X.1 X.2.1 dX9_permits_38 (by decide) ?_
  obtain ⟨hi2, h⟩ := gd_some h
  refine r_zast X w lyM_12 (by decide) hi2 dX9_permits_39 (fun H locs w => ?_)
  obtain ⟨m3, em3, h⟩ := wk_some h
  rw [em3] at w
  obtain ⟨rfl, -⟩ := Prod.mk.inj (Option.some.inj h)
  exact r_vret X M w dX9_permits_40
def fX9_permits (mem : Mm) (a1 : Int32) (a2 : Int32) (a3 : Int32) (a4 : Int32) : Option (Mm × Unit) :=
  if (fX9_whatOf a1) = (2 : Int32) then if a4 = 0 then fX9_permits_b23 mem a1 a2 a3 else if ((fX9_rightsOf a1) &&& (8 : Int32)) = 0 then some (mem, ()) else fX9_permits_b23 mem a1 a2 a3 else some (mem, ())
set_option maxRecDepth 100000 in
set_option maxHeartbeats 4000000 in
theorem kX9_permits (l : Launch) (D : va_G) (ca : Nat → ClassId) (ad : Nat → Nat) (mem : Mm) (a1 : Int32) (a2 : Int32) (a3 : Int32) (a4 : Int32)  {mem' : Mm} {r : Unit} (h : fX9_permits mem a1 a2 a3 a4 = some (mem', r)) : CtV l yX9_permits cX9_permits 5 none (rmx 1 20) D ca ad layM mem [.ref (ad 0), .int a1, .int a2, .int a3, .int a4] mem' := by
  refine CtV.of (by decide) (Nat.le_of_ble_eq_true rfl) ?_
  intro p e s m args below meth c H locs ls X M w hl
  replace X : CallFix p m c cX9_permits 5 s args TT RX9 := X
  replace hl : lv_has ls 5 [(0, .ref (ad 0)), (1, .int a1), (2, .int a2), (3, .int a3), (4, .int a4)] := hl
  unfold fX9_permits at h
  refine lv_iload_n X.1 X.2.1 dX9_permits_0 rfl (lv_at hl 1 rfl) ?_
  refine r_cSi (As := [.int a1]) (rest := []) X w (kX9_whatOf  l D ca ad mem a1  rfl) (gTS tw_993 tw_994 tw_75 tw_995) hdX9_whatOf (by decide) rfl hl.1 rfl (Nat.le_of_ble_eq_true rfl) dX9_permits_1 ⟨Nat.zero_le _, Nat.zero_le _⟩ (fun H locs w => ?_)
  refine lv_iconst (v := (2 : Int32)) X.1 X.2.1 dX9_permits_4 (by decide) ?_
  refine lv_icmp_ne (tgt := 40) X.1 X.2.1 dX9_permits_5 (by decide) (fun c1 => ?_) (fun c1 => ?_)
  · rw [if_neg c1] at h
    obtain ⟨rfl, -⟩ := Prod.mk.inj (Option.some.inj h)
    exact r_vret X M w dX9_permits_40
  · rw [if_pos c1] at h
    refine lv_iload X.1 X.2.1 dX9_permits_8 (lv_at hl 4 rfl) ?_
    refine lv_if_eq (tgt := 23) X.1 X.2.1 dX9_permits_10 (by decide) (fun c2 => ?_) (fun c2 => ?_)
    · rw [if_pos c2] at h
      exact wX9_permits_b23 X M w (lv_sub hl [0, 1, 2, 3] rfl) h
    · rw [if_neg c2] at h
      refine lv_iload_n X.1 X.2.1 dX9_permits_13 rfl (lv_at hl 1 rfl) ?_
      refine r_cSi (As := [.int a1]) (rest := []) X w (kX9_rightsOf  l D ca ad mem a1  rfl) (gTS tw_1084 tw_1085 tw_75 tw_1086) hdX9_rightsOf (by decide) rfl hl.1 rfl (Nat.le_of_ble_eq_true rfl) dX9_permits_14 ⟨Nat.zero_le _, Nat.zero_le _⟩ (fun H locs w => ?_)
      refine lv_bipush (v := (8 : Int32)) X.1 X.2.1 dX9_permits_17 (by decide) ?_
      refine lv_iand X.1 X.2.1 dX9_permits_19 ?_
      refine lv_if_eq (tgt := 40) X.1 X.2.1 dX9_permits_20 (by decide) (fun c3 => ?_) (fun c3 => ?_)
      · rw [if_pos c3] at h
        obtain ⟨rfl, -⟩ := Prod.mk.inj (Option.some.inj h)
        exact r_vret X M w dX9_permits_40
      · rw [if_neg c3] at h
        exact wX9_permits_b23 X M w (lv_sub hl [0, 1, 2, 3] rfl) h
/-! WalkHouseModel.laysLow(IIIZ)V (W) -/
theorem hdX9_laysLow : yX9_laysLow.cls = RX9 ∧ yX9_laysLow.cls ≠ "java/lang/invoke/MethodHandle" ∧ yX9_laysLow.cls ≠ "java/lang/invoke/VarHandle" ∧ (parseMethodDescriptor yX9_laysLow.desc).map (fun d => d.parameters.length) = some 4 := by decide +kernel
def fX9_laysLow_b36_s  (k36 : Mm → Int32 → Int32 → Int32 → Int32 → Option (Mm × Unit)) (mem : Mm) (x2 : Int32) (x4 : Int32) (x6 : Int32) (x7 : Int32) : Option (Mm × Unit) :=
  if x6 ≤ x7 then some (mem, ()) else gd x7 41 (bw (fX9_permits mem (mem 11 x7.toNatClampNeg) x2 (0 : Int32) x4) (fun m4 r3 => k36 m4 x2 x4 x6 (x7 + (1 : Int32))))
def fX9_laysLow_b36  : Nat → Mm → Int32 → Int32 → Int32 → Int32 → Option (Mm × Unit)
  | 0 => fun _ _ _ _ _ => none
  | n + 1 => fX9_laysLow_b36_s  (fX9_laysLow_b36  n)
set_option maxRecDepth 100000 in
set_option maxHeartbeats 4000000 in
theorem wX9_laysLow_b36_s {p : Program} {l : Launch} {e : Env} {s : State} {m : MethodId} {args : Array Value} {below : List Frame} {meth : Method} {c : Code} {D : va_G} {ca : Nat → ClassId} {ad : Nat → Nat} {H : Heap} {locs : List Loc} {ls : Array Slot} {mem : Mm} {x2 : Int32} {x4 : Int32} {x6 : Int32} {x7 : Int32}  {k36 : Mm → Int32 → Int32 → Int32 → Int32 → Option (Mm × Unit)} {mem' : Mm} {r : Unit} (X : CallFix p m c cX9_laysLow 8 s args TT RX9) (M : Mt meth none)  (hk36 : ∀ (mem : Mm) (x2 : Int32) (x4 : Int32) (x6 : Int32) (x7 : Int32) (H : Heap) (locs : List Loc) (ls : Array Slot) , Wd D ca ad layM (AA ad layM.length) s.heap s mem H locs → lv_has ls 8 [(0, .ref (ad 0)), (2, .int x2), (4, .int x4), (6, .int x6), (7, .int x7)] → k36 mem x2 x4 x6 x7 = some (mem', r) → W p l e (rmx 2 44) s m args below meth c H locs 0 0 (EndV D ca ad layM mem' below args s) (F0 m 36 ls []))  (w : Wd D ca ad layM (AA ad layM.length) s.heap s mem H locs) (hl : lv_has ls 8 [(0, .ref (ad 0)), (2, .int x2), (4, .int x4), (6, .int x6), (7, .int x7)]) (h : fX9_laysLow_b36_s  k36 mem x2 x4 x6 x7 = some (mem', r)) : W p l e (rmx 2 44) s m args below meth c H locs 0 0 (EndV D ca ad layM mem' below args s) (F0 m 36 ls []) := by
  unfold fX9_laysLow_b36_s at h
  refine lv_iload X.1 X.2.1 dX9_laysLow_36 (lv_at hl 4 rfl) ?_
  refine lv_iload X.1 X.2.1 dX9_laysLow_38 (lv_at hl 3 rfl) ?_
  refine lv_icmp_ge (tgt := 64) X.1 X.2.1 dX9_laysLow_40 (by decide) (fun c1 => ?_) (fun c1 => ?_)
  · rw [if_pos c1] at h
    obtain ⟨rfl, -⟩ := Prod.mk.inj (Option.some.inj h)
    exact r_vret X M w dX9_laysLow_64
  · rw [if_neg c1] at h
    refine lv_aload_n X.1 X.2.1 dX9_laysLow_43 rfl (lv_at hl 0 rfl) ?_
    refine lv_aload_n X.1 X.2.1 dX9_laysLow_44 rfl (lv_at hl 0 rfl) ?_
    refine r_getr (b2 := 11) X w lyM_0 rfl inT9 23 rfl rfl (by decide) rfl tw_925 dX9_laysLow_45 ?_
    refine lv_iload X.1 X.2.1 dX9_laysLow_48 (lv_at hl 4 rfl) ?_
    obtain ⟨hi2, h⟩ := gd_some h
    refine r_iald X w lyM_11 hi2 dX9_laysLow_50 ?_
    refine lv_iload_n X.1 X.2.1 dX9_laysLow_51 rfl (lv_at hl 1 rfl) ?_
    refine lv_iconst (v := (0 : Int32)) X.1 X.2.1 dX9_laysLow_52 (by decide) ?_
    refine lv_iload X.1 X.2.1 dX9_laysLow_53 (lv_at hl 2 rfl) ?_
    obtain ⟨m4, r3, hr3, h⟩ := bw_some h
    refine r_cVv (As := [.int (mem 11 x7.toNatClampNeg), .int x2, .int (0 : Int32), .int x4]) (rest := []) X w lyM_0 rfl (kX9_permits  l D ca ad mem (mem 11 x7.toNatClampNeg) x2 (0 : Int32) x4  hr3) (gTV tw_1205 tw_1207 tw_58 tw_75 tw_1208) hdX9_permits (by decide) rfl hl.1 rfl (Nat.le_of_ble_eq_true rfl) dX9_laysLow_55 ⟨Nat.zero_le _, Nat.zero_le _⟩ (fun H locs w => ?_)
    refine lv_iinc (v := (x7 + (1 : Int32))) (lv' := [(7, .int (x7 + (1 : Int32))), (0, .ref (ad 0)), (2, .int x2), (4, .int x4), (6, .int x6)]) X.1 X.2.1 dX9_laysLow_58 hl (k := 4) rfl rfl (by decide) rfl (fun ls hl => ?_)
    refine lv_goto (tgt := 36) X.1 X.2.1 dX9_laysLow_61 (by decide) ?_
    exact hk36 _ _ _ _ _ H locs ls w (lv_sub hl [1, 2, 3, 4, 0] rfl) h
set_option maxRecDepth 100000 in
set_option maxHeartbeats 4000000 in
theorem wX9_laysLow_b36 {p : Program} {l : Launch} {e : Env} {s : State} {m : MethodId} {args : Array Value} {below : List Frame} {meth : Method} {c : Code} {D : va_G} {ca : Nat → ClassId} {ad : Nat → Nat}  {mem' : Mm} {r : Unit} (X : CallFix p m c cX9_laysLow 8 s args TT RX9) (M : Mt meth none)  : ∀ (n : Nat) (mem : Mm) (x2 : Int32) (x4 : Int32) (x6 : Int32) (x7 : Int32) (H : Heap) (locs : List Loc) (ls : Array Slot)  (_ : Wd D ca ad layM (AA ad layM.length) s.heap s mem H locs) (_ : lv_has ls 8 [(0, .ref (ad 0)), (2, .int x2), (4, .int x4), (6, .int x6), (7, .int x7)]) (_ : fX9_laysLow_b36  n mem x2 x4 x6 x7 = some (mem', r)), W p l e (rmx 2 44) s m args below meth c H locs 0 0 (EndV D ca ad layM mem' below args s) (F0 m 36 ls []) := by
  intro n
  induction n with
  | zero => intro mem x2 x4 x6 x7 H locs ls  w hl h; exact (nofun : (none : Option (Mm × Unit)) = _ → _) h
  | succ n ih => intro mem x2 x4 x6 x7 H locs ls  w hl h; exact wX9_laysLow_b36_s X M  ih  w hl h
def fX9_laysLow (mem : Mm) (a1 : Int32) (a2 : Int32) (a3 : Int32) (a4 : Int32) : Option (Mm × Unit) :=
  bd (fX9_place (fX9_targetOf a1) a2 (0 : Int32)) (fun r1 => gd ((0 : Int32) + r1) 345 (bw (fX9_valuesOf mem r1 (mem 1 ((0 : Int32) + r1).toNatClampNeg) a3 11) (fun m4 r3 => fX9_laysLow_b36 2000 m4 a2 a4 r3 (0 : Int32))))
set_option maxRecDepth 100000 in
set_option maxHeartbeats 4000000 in
theorem kX9_laysLow (l : Launch) (D : va_G) (ca : Nat → ClassId) (ad : Nat → Nat) (mem : Mm) (a1 : Int32) (a2 : Int32) (a3 : Int32) (a4 : Int32)  {mem' : Mm} {r : Unit} (h : fX9_laysLow mem a1 a2 a3 a4 = some (mem', r)) : CtV l yX9_laysLow cX9_laysLow 8 none (rmx 2 44) D ca ad layM mem [.ref (ad 0), .int a1, .int a2, .int a3, .int a4] mem' := by
  refine CtV.of (by decide) (Nat.le_of_ble_eq_true rfl) ?_
  intro p e s m args below meth c H locs ls X M w hl
  replace X : CallFix p m c cX9_laysLow 8 s args TT RX9 := X
  replace hl : lv_has ls 8 [(0, .ref (ad 0)), (1, .int a1), (2, .int a2), (3, .int a3), (4, .int a4)] := hl
  unfold fX9_laysLow at h
  refine lv_iload_n X.1 X.2.1 dX9_laysLow_0 rfl (lv_at hl 1 rfl) ?_
  refine r_cSi (As := [.int a1]) (rest := []) X w (kX9_targetOf  l D ca ad mem a1  rfl) (gTS tw_1087 tw_1088 tw_75 tw_1089) hdX9_targetOf (by decide) rfl hl.1 rfl (Nat.le_of_ble_eq_true rfl) dX9_laysLow_1 ⟨Nat.zero_le _, Nat.zero_le _⟩ (fun H locs w => ?_)
  refine lv_iload_n X.1 X.2.1 dX9_laysLow_4 rfl (lv_at hl 2 rfl) ?_
  refine lv_iconst (v := (0 : Int32)) X.1 X.2.1 dX9_laysLow_5 (by decide) ?_
  obtain ⟨r1, hr1, h⟩ := bd_some h
  refine r_cSi (As := [.int (fX9_targetOf a1), .int a2, .int (0 : Int32)]) (rest := []) X w (kX9_place  l D ca ad mem (fX9_targetOf a1) a2 (0 : Int32)  hr1) (gTS tw_1081 tw_1082 tw_75 tw_1083) hdX9_place (by decide) rfl hl.1 rfl (Nat.le_of_ble_eq_true rfl) dX9_laysLow_6 ⟨Nat.zero_le _, Nat.zero_le _⟩ (fun H locs w => ?_)
  refine lv_istore (lv' := [(5, .int r1), (0, .ref (ad 0)), (1, .int a1), (2, .int a2), (3, .int a3), (4, .int a4)]) X.1 X.2.1 dX9_laysLow_9 hl (by decide) rfl (fun ls hl => ?_)
  refine lv_aload_n X.1 X.2.1 dX9_laysLow_11 rfl (lv_at hl 1 rfl) ?_
  refine lv_iload X.1 X.2.1 dX9_laysLow_12 (lv_at hl 0 rfl) ?_
  refine lv_aload_n X.1 X.2.1 dX9_laysLow_14 rfl (lv_at hl 1 rfl) ?_
  refine r_getr (b2 := 1) X w lyM_0 rfl inT9 1 rfl rfl (by decide) rfl tw_903 dX9_laysLow_15 ?_
  refine lv_iconst (v := (0 : Int32)) X.1 X.2.1 dX9_laysLow_18 (by decide) ?_
  refine lv_iload X.1 X.2.1 dX9_laysLow_19 (lv_at hl 0 rfl) ?_
  refine lv_iadd X.1 X.2.1 dX9_laysLow_21 ?_
  obtain ⟨hi2, h⟩ := gd_some h
  refine r_iald X w lyM_1 hi2 dX9_laysLow_22 ?_
  refine lv_iload_n X.1 X.2.1 dX9_laysLow_23 rfl (lv_at hl 4 rfl) ?_
  refine lv_aload_n X.1 X.2.1 dX9_laysLow_24 rfl (lv_at hl 1 rfl) ?_
  refine r_getr (b2 := 11) X w lyM_0 rfl inT9 23 rfl rfl (by decide) rfl tw_925 dX9_laysLow_25 ?_
  obtain ⟨m4, r3, hr3, h⟩ := bw_some h
  refine r_cVi (As := [.int r1, .int (mem 1 ((0 : Int32) + r1).toNatClampNeg), .int a3, .ref (ad 11)]) (rest := []) X w lyM_0 rfl (kX9_valuesOf  l D ca ad mem r1 (mem 1 ((0 : Int32) + r1).toNatClampNeg) a3 11 lyM_11 hr3) (gTV tw_1201 tw_1203 tw_57 tw_75 tw_1204) hdX9_valuesOf (by decide) rfl hl.1 rfl (Nat.le_of_ble_eq_true rfl) dX9_laysLow_28 ⟨Nat.zero_le _, Nat.zero_le _⟩ (fun H locs w => ?_)
  refine lv_istore (lv' := [(6, .int r3), (5, .int r1), (0, .ref (ad 0)), (1, .int a1), (2, .int a2), (3, .int a3), (4, .int a4)]) X.1 X.2.1 dX9_laysLow_31 hl (by decide) rfl (fun ls hl => ?_)
  refine lv_iconst (v := (0 : Int32)) X.1 X.2.1 dX9_laysLow_33 (by decide) ?_
  refine lv_istore (lv' := [(7, .int (0 : Int32)), (6, .int r3), (5, .int r1), (0, .ref (ad 0)), (1, .int a1), (2, .int a2), (3, .int a3), (4, .int a4)]) X.1 X.2.1 dX9_laysLow_34 hl (by decide) rfl (fun ls hl => ?_)
  exact wX9_laysLow_b36 X M _ _ _ _ _ _ H locs ls w (lv_sub hl [3, 5, 7, 1, 0] rfl) h
/-! WalkHouseModel.laysMid(IIIZ)V (W) -/
theorem hdX9_laysMid : yX9_laysMid.cls = RX9 ∧ yX9_laysMid.cls ≠ "java/lang/invoke/MethodHandle" ∧ yX9_laysMid.cls ≠ "java/lang/invoke/VarHandle" ∧ (parseMethodDescriptor yX9_laysMid.desc).map (fun d => d.parameters.length) = some 4 := by decide +kernel
def fX9_laysMid_b36_s  (k36 : Mm → Int32 → Int32 → Int32 → Int32 → Int32 → Option (Mm × Unit)) (mem : Mm) (x2 : Int32) (x3 : Int32) (x4 : Int32) (x6 : Int32) (x7 : Int32) : Option (Mm × Unit) :=
  if x6 ≤ x7 then some (mem, ()) else gd x7 41 (bw (fX9_permits mem (mem 10 x7.toNatClampNeg) x2 (1 : Int32) x4) (fun m4 r3 => gd x7 41 (if (fX9_whatOf (m4 10 x7.toNatClampNeg)) = (1 : Int32) then gd x7 41 (bw (fX9_laysLow m4 (m4 10 x7.toNatClampNeg) x2 x3 x4) (fun m9 r8 => k36 m9 x2 x3 x4 x6 (x7 + (1 : Int32)))) else k36 m4 x2 x3 x4 x6 (x7 + (1 : Int32)))))
def fX9_laysMid_b36  : Nat → Mm → Int32 → Int32 → Int32 → Int32 → Int32 → Option (Mm × Unit)
  | 0 => fun _ _ _ _ _ _ => none
  | n + 1 => fX9_laysMid_b36_s  (fX9_laysMid_b36  n)
set_option maxRecDepth 100000 in
set_option maxHeartbeats 4000000 in
theorem wX9_laysMid_b36_s {p : Program} {l : Launch} {e : Env} {s : State} {m : MethodId} {args : Array Value} {below : List Frame} {meth : Method} {c : Code} {D : va_G} {ca : Nat → ClassId} {ad : Nat → Nat} {H : Heap} {locs : List Loc} {ls : Array Slot} {mem : Mm} {x2 : Int32} {x3 : Int32} {x4 : Int32} {x6 : Int32} {x7 : Int32}  {k36 : Mm → Int32 → Int32 → Int32 → Int32 → Int32 → Option (Mm × Unit)} {mem' : Mm} {r : Unit} (X : CallFix p m c cX9_laysMid 8 s args TT RX9) (M : Mt meth none)  (hk36 : ∀ (mem : Mm) (x2 : Int32) (x3 : Int32) (x4 : Int32) (x6 : Int32) (x7 : Int32) (H : Heap) (locs : List Loc) (ls : Array Slot) , Wd D ca ad layM (AA ad layM.length) s.heap s mem H locs → lv_has ls 8 [(0, .ref (ad 0)), (2, .int x2), (3, .int x3), (4, .int x4), (6, .int x6), (7, .int x7)] → k36 mem x2 x3 x4 x6 x7 = some (mem', r) → W p l e (rmx 3 71) s m args below meth c H locs 0 0 (EndV D ca ad layM mem' below args s) (F0 m 36 ls []))  (w : Wd D ca ad layM (AA ad layM.length) s.heap s mem H locs) (hl : lv_has ls 8 [(0, .ref (ad 0)), (2, .int x2), (3, .int x3), (4, .int x4), (6, .int x6), (7, .int x7)]) (h : fX9_laysMid_b36_s  k36 mem x2 x3 x4 x6 x7 = some (mem', r)) : W p l e (rmx 3 71) s m args below meth c H locs 0 0 (EndV D ca ad layM mem' below args s) (F0 m 36 ls []) := by
  unfold fX9_laysMid_b36_s at h
  refine lv_iload X.1 X.2.1 dX9_laysMid_36 (lv_at hl 5 rfl) ?_
  refine lv_iload X.1 X.2.1 dX9_laysMid_38 (lv_at hl 4 rfl) ?_
  refine lv_icmp_ge (tgt := 93) X.1 X.2.1 dX9_laysMid_40 (by decide) (fun c1 => ?_) (fun c1 => ?_)
  · rw [if_pos c1] at h
    obtain ⟨rfl, -⟩ := Prod.mk.inj (Option.some.inj h)
    exact r_vret X M w dX9_laysMid_93
  · rw [if_neg c1] at h
    refine lv_aload_n X.1 X.2.1 dX9_laysMid_43 rfl (lv_at hl 0 rfl) ?_
    refine lv_aload_n X.1 X.2.1 dX9_laysMid_44 rfl (lv_at hl 0 rfl) ?_
    refine r_getr (b2 := 10) X w lyM_0 rfl inT9 22 rfl rfl (by decide) rfl tw_924 dX9_laysMid_45 ?_
    refine lv_iload X.1 X.2.1 dX9_laysMid_48 (lv_at hl 5 rfl) ?_
    obtain ⟨hi2, h⟩ := gd_some h
    refine r_iald X w lyM_10 hi2 dX9_laysMid_50 ?_
    refine lv_iload_n X.1 X.2.1 dX9_laysMid_51 rfl (lv_at hl 1 rfl) ?_
    refine lv_iconst (v := (1 : Int32)) X.1 X.2.1 dX9_laysMid_52 (by decide) ?_
    refine lv_iload X.1 X.2.1 dX9_laysMid_53 (lv_at hl 3 rfl) ?_
    obtain ⟨m4, r3, hr3, h⟩ := bw_some h
    refine r_cVv (As := [.int (mem 10 x7.toNatClampNeg), .int x2, .int (1 : Int32), .int x4]) (rest := []) X w lyM_0 rfl (kX9_permits  l D ca ad mem (mem 10 x7.toNatClampNeg) x2 (1 : Int32) x4  hr3) (gTV tw_1205 tw_1207 tw_58 tw_75 tw_1208) hdX9_permits (by decide) rfl hl.1 rfl (Nat.le_of_ble_eq_true rfl) dX9_laysMid_55 ⟨Nat.zero_le _, Nat.zero_le _⟩ (fun H locs w => ?_)
    refine lv_aload_n X.1 X.2.1 dX9_laysMid_58 rfl (lv_at hl 0 rfl) ?_
    refine r_getr (b2 := 10) X w lyM_0 rfl inT9 22 rfl rfl (by decide) rfl tw_924 dX9_laysMid_59 ?_
    refine lv_iload X.1 X.2.1 dX9_laysMid_62 (lv_at hl 5 rfl) ?_
    obtain ⟨hi5, h⟩ := gd_some h
    refine r_iald X w lyM_10 hi5 dX9_laysMid_64 ?_
    refine r_cSi (As := [.int (m4 10 x7.toNatClampNeg)]) (rest := []) X w (kX9_whatOf  l D ca ad m4 (m4 10 x7.toNatClampNeg)  rfl) (gTS tw_993 tw_994 tw_75 tw_995) hdX9_whatOf (by decide) rfl hl.1 rfl (Nat.le_of_ble_eq_true rfl) dX9_laysMid_65 ⟨Nat.zero_le _, Nat.zero_le _⟩ (fun H locs w => ?_)
    refine lv_iconst (v := (1 : Int32)) X.1 X.2.1 dX9_laysMid_68 (by decide) ?_
    refine lv_icmp_ne (tgt := 87) X.1 X.2.1 dX9_laysMid_69 (by decide) (fun c6 => ?_) (fun c6 => ?_)
    · rw [if_neg c6] at h
      refine lv_iinc (v := (x7 + (1 : Int32))) (lv' := [(7, .int (x7 + (1 : Int32))), (0, .ref (ad 0)), (2, .int x2), (3, .int x3), (4, .int x4), (6, .int x6)]) X.1 X.2.1 dX9_laysMid_87 hl (k := 5) rfl rfl (by decide) rfl (fun ls hl => ?_)
      refine lv_goto (tgt := 36) X.1 X.2.1 dX9_laysMid_90 (by decide) ?_
      exact hk36 _ _ _ _ _ _ H locs ls w (lv_sub hl [1, 2, 3, 4, 5, 0] rfl) h
    · rw [if_pos c6] at h
      refine lv_aload_n X.1 X.2.1 dX9_laysMid_72 rfl (lv_at hl 0 rfl) ?_
      refine lv_aload_n X.1 X.2.1 dX9_laysMid_73 rfl (lv_at hl 0 rfl) ?_
      refine r_getr (b2 := 10) X w lyM_0 rfl inT9 22 rfl rfl (by decide) rfl tw_924 dX9_laysMid_74 ?_
      refine lv_iload X.1 X.2.1 dX9_laysMid_77 (lv_at hl 5 rfl) ?_
      obtain ⟨hi7, h⟩ := gd_some h
      refine r_iald X w lyM_10 hi7 dX9_laysMid_79 ?_
      refine lv_iload_n X.1 X.2.1 dX9_laysMid_80 rfl (lv_at hl 1 rfl) ?_
      refine lv_iload_n X.1 X.2.1 dX9_laysMid_81 rfl (lv_at hl 2 rfl) ?_
      refine lv_iload X.1 X.2.1 dX9_laysMid_82 (lv_at hl 3 rfl) ?_
      obtain ⟨m9, r8, hr8, h⟩ := bw_some h
      refine r_cVv (As := [.int (m4 10 x7.toNatClampNeg), .int x2, .int x3, .int x4]) (rest := []) X w lyM_0 rfl (kX9_laysLow  l D ca ad m4 (m4 10 x7.toNatClampNeg) x2 x3 x4  hr8) (gTV tw_1213 tw_1215 tw_60 tw_75 tw_1216) hdX9_laysLow (by decide) rfl hl.1 rfl (Nat.le_of_ble_eq_true rfl) dX9_laysMid_84 ⟨Nat.zero_le _, Nat.zero_le _⟩ (fun H locs w => ?_)
      refine lv_iinc (v := (x7 + (1 : Int32))) (lv' := [(7, .int (x7 + (1 : Int32))), (0, .ref (ad 0)), (2, .int x2), (3, .int x3), (4, .int x4), (6, .int x6)]) X.1 X.2.1 dX9_laysMid_87 hl (k := 5) rfl rfl (by decide) rfl (fun ls hl => ?_)
      refine lv_goto (tgt := 36) X.1 X.2.1 dX9_laysMid_90 (by decide) ?_
      exact hk36 _ _ _ _ _ _ H locs ls w (lv_sub hl [1, 2, 3, 4, 5, 0] rfl) h
set_option maxRecDepth 100000 in
set_option maxHeartbeats 4000000 in
theorem wX9_laysMid_b36 {p : Program} {l : Launch} {e : Env} {s : State} {m : MethodId} {args : Array Value} {below : List Frame} {meth : Method} {c : Code} {D : va_G} {ca : Nat → ClassId} {ad : Nat → Nat}  {mem' : Mm} {r : Unit} (X : CallFix p m c cX9_laysMid 8 s args TT RX9) (M : Mt meth none)  : ∀ (n : Nat) (mem : Mm) (x2 : Int32) (x3 : Int32) (x4 : Int32) (x6 : Int32) (x7 : Int32) (H : Heap) (locs : List Loc) (ls : Array Slot)  (_ : Wd D ca ad layM (AA ad layM.length) s.heap s mem H locs) (_ : lv_has ls 8 [(0, .ref (ad 0)), (2, .int x2), (3, .int x3), (4, .int x4), (6, .int x6), (7, .int x7)]) (_ : fX9_laysMid_b36  n mem x2 x3 x4 x6 x7 = some (mem', r)), W p l e (rmx 3 71) s m args below meth c H locs 0 0 (EndV D ca ad layM mem' below args s) (F0 m 36 ls []) := by
  intro n
  induction n with
  | zero => intro mem x2 x3 x4 x6 x7 H locs ls  w hl h; exact (nofun : (none : Option (Mm × Unit)) = _ → _) h
  | succ n ih => intro mem x2 x3 x4 x6 x7 H locs ls  w hl h; exact wX9_laysMid_b36_s X M  ih  w hl h
def fX9_laysMid (mem : Mm) (a1 : Int32) (a2 : Int32) (a3 : Int32) (a4 : Int32) : Option (Mm × Unit) :=
  bd (fX9_place (fX9_targetOf a1) a2 (1 : Int32)) (fun r1 => gd ((0 : Int32) + r1) 345 (bw (fX9_valuesOf mem r1 (mem 1 ((0 : Int32) + r1).toNatClampNeg) a3 10) (fun m4 r3 => fX9_laysMid_b36 2000 m4 a2 a3 a4 r3 (0 : Int32))))
set_option maxRecDepth 100000 in
set_option maxHeartbeats 4000000 in
theorem kX9_laysMid (l : Launch) (D : va_G) (ca : Nat → ClassId) (ad : Nat → Nat) (mem : Mm) (a1 : Int32) (a2 : Int32) (a3 : Int32) (a4 : Int32)  {mem' : Mm} {r : Unit} (h : fX9_laysMid mem a1 a2 a3 a4 = some (mem', r)) : CtV l yX9_laysMid cX9_laysMid 8 none (rmx 3 71) D ca ad layM mem [.ref (ad 0), .int a1, .int a2, .int a3, .int a4] mem' := by
  refine CtV.of (by decide) (Nat.le_of_ble_eq_true rfl) ?_
  intro p e s m args below meth c H locs ls X M w hl
  replace X : CallFix p m c cX9_laysMid 8 s args TT RX9 := X
  replace hl : lv_has ls 8 [(0, .ref (ad 0)), (1, .int a1), (2, .int a2), (3, .int a3), (4, .int a4)] := hl
  unfold fX9_laysMid at h
  refine lv_iload_n X.1 X.2.1 dX9_laysMid_0 rfl (lv_at hl 1 rfl) ?_
  refine r_cSi (As := [.int a1]) (rest := []) X w (kX9_targetOf  l D ca ad mem a1  rfl) (gTS tw_1087 tw_1088 tw_75 tw_1089) hdX9_targetOf (by decide) rfl hl.1 rfl (Nat.le_of_ble_eq_true rfl) dX9_laysMid_1 ⟨Nat.zero_le _, Nat.zero_le _⟩ (fun H locs w => ?_)
  refine lv_iload_n X.1 X.2.1 dX9_laysMid_4 rfl (lv_at hl 2 rfl) ?_
  refine lv_iconst (v := (1 : Int32)) X.1 X.2.1 dX9_laysMid_5 (by decide) ?_
  obtain ⟨r1, hr1, h⟩ := bd_some h
  refine r_cSi (As := [.int (fX9_targetOf a1), .int a2, .int (1 : Int32)]) (rest := []) X w (kX9_place  l D ca ad mem (fX9_targetOf a1) a2 (1 : Int32)  hr1) (gTS tw_1081 tw_1082 tw_75 tw_1083) hdX9_place (by decide) rfl hl.1 rfl (Nat.le_of_ble_eq_true rfl) dX9_laysMid_6 ⟨Nat.zero_le _, Nat.zero_le _⟩ (fun H locs w => ?_)
  refine lv_istore (lv' := [(5, .int r1), (0, .ref (ad 0)), (1, .int a1), (2, .int a2), (3, .int a3), (4, .int a4)]) X.1 X.2.1 dX9_laysMid_9 hl (by decide) rfl (fun ls hl => ?_)
  refine lv_aload_n X.1 X.2.1 dX9_laysMid_11 rfl (lv_at hl 1 rfl) ?_
  refine lv_iload X.1 X.2.1 dX9_laysMid_12 (lv_at hl 0 rfl) ?_
  refine lv_aload_n X.1 X.2.1 dX9_laysMid_14 rfl (lv_at hl 1 rfl) ?_
  refine r_getr (b2 := 1) X w lyM_0 rfl inT9 1 rfl rfl (by decide) rfl tw_903 dX9_laysMid_15 ?_
  refine lv_iconst (v := (0 : Int32)) X.1 X.2.1 dX9_laysMid_18 (by decide) ?_
  refine lv_iload X.1 X.2.1 dX9_laysMid_19 (lv_at hl 0 rfl) ?_
  refine lv_iadd X.1 X.2.1 dX9_laysMid_21 ?_
  obtain ⟨hi2, h⟩ := gd_some h
  refine r_iald X w lyM_1 hi2 dX9_laysMid_22 ?_
  refine lv_iload_n X.1 X.2.1 dX9_laysMid_23 rfl (lv_at hl 4 rfl) ?_
  refine lv_aload_n X.1 X.2.1 dX9_laysMid_24 rfl (lv_at hl 1 rfl) ?_
  refine r_getr (b2 := 10) X w lyM_0 rfl inT9 22 rfl rfl (by decide) rfl tw_924 dX9_laysMid_25 ?_
  obtain ⟨m4, r3, hr3, h⟩ := bw_some h
  refine r_cVi (As := [.int r1, .int (mem 1 ((0 : Int32) + r1).toNatClampNeg), .int a3, .ref (ad 10)]) (rest := []) X w lyM_0 rfl (kX9_valuesOf  l D ca ad mem r1 (mem 1 ((0 : Int32) + r1).toNatClampNeg) a3 10 lyM_10 hr3) (gTV tw_1201 tw_1203 tw_57 tw_75 tw_1204) hdX9_valuesOf (by decide) rfl hl.1 rfl (Nat.le_of_ble_eq_true rfl) dX9_laysMid_28 ⟨Nat.zero_le _, Nat.zero_le _⟩ (fun H locs w => ?_)
  refine lv_istore (lv' := [(6, .int r3), (5, .int r1), (0, .ref (ad 0)), (1, .int a1), (2, .int a2), (3, .int a3), (4, .int a4)]) X.1 X.2.1 dX9_laysMid_31 hl (by decide) rfl (fun ls hl => ?_)
  refine lv_iconst (v := (0 : Int32)) X.1 X.2.1 dX9_laysMid_33 (by decide) ?_
  refine lv_istore (lv' := [(7, .int (0 : Int32)), (6, .int r3), (5, .int r1), (0, .ref (ad 0)), (1, .int a1), (2, .int a2), (3, .int a3), (4, .int a4)]) X.1 X.2.1 dX9_laysMid_34 hl (by decide) rfl (fun ls hl => ?_)
  exact wX9_laysMid_b36 X M _ _ _ _ _ _ _ H locs ls w (lv_sub hl [3, 5, 6, 7, 1, 0] rfl) h
/-! WalkHouseModel.laysWays(IIIZ)V (W) -/
theorem hdX9_laysWays : yX9_laysWays.cls = RX9 ∧ yX9_laysWays.cls ≠ "java/lang/invoke/MethodHandle" ∧ yX9_laysWays.cls ≠ "java/lang/invoke/VarHandle" ∧ (parseMethodDescriptor yX9_laysWays.desc).map (fun d => d.parameters.length) = some 4 := by decide +kernel
def fX9_laysWays_b102_s (k28 : Mm → Int32 → Int32 → Int32 → Int32 → Int32 → Option (Mm × Unit)) (k102 : Mm → Int32 → Int32 → Int32 → Int32 → Int32 → Int32 → Int32 → Option (Mm × Unit)) (mem : Mm) (x2 : Int32) (x3 : Int32) (x4 : Int32) (x5 : Int32) (x6 : Int32) (x8 : Int32) (x9 : Int32) : Option (Mm × Unit) :=
  if x8 ≤ x9 then k28 mem x2 x3 x4 x5 (x6 + (1 : Int32)) else gd x9 41 (bw (fX9_permits mem (mem 9 x9.toNatClampNeg) x2 (2 : Int32) x4) (fun m4 r3 => gd x9 41 (if (fX9_whatOf (m4 9 x9.toNatClampNeg)) = (1 : Int32) then gd x9 41 (bw (fX9_laysMid m4 (m4 9 x9.toNatClampNeg) x2 x3 x4) (fun m9 r8 => k102 m9 x2 x3 x4 x5 x6 x8 (x9 + (1 : Int32)))) else k102 m4 x2 x3 x4 x5 x6 x8 (x9 + (1 : Int32)))))
def fX9_laysWays_b102 (k28 : Mm → Int32 → Int32 → Int32 → Int32 → Int32 → Option (Mm × Unit)) : Nat → Mm → Int32 → Int32 → Int32 → Int32 → Int32 → Int32 → Int32 → Option (Mm × Unit)
  | 0 => fun _ _ _ _ _ _ _ _ => none
  | n + 1 => fX9_laysWays_b102_s k28 (fX9_laysWays_b102 k28 n)
set_option maxRecDepth 100000 in
set_option maxHeartbeats 4000000 in
theorem wX9_laysWays_b102_s {p : Program} {l : Launch} {e : Env} {s : State} {m : MethodId} {args : Array Value} {below : List Frame} {meth : Method} {c : Code} {D : va_G} {ca : Nat → ClassId} {ad : Nat → Nat} {H : Heap} {locs : List Loc} {ls : Array Slot} {mem : Mm} {x2 : Int32} {x3 : Int32} {x4 : Int32} {x5 : Int32} {x6 : Int32} {x8 : Int32} {x9 : Int32} {k28 : Mm → Int32 → Int32 → Int32 → Int32 → Int32 → Option (Mm × Unit)} {k102 : Mm → Int32 → Int32 → Int32 → Int32 → Int32 → Int32 → Int32 → Option (Mm × Unit)} {mem' : Mm} {r : Unit} (X : CallFix p m c cX9_laysWays 10 s args TT RX9) (M : Mt meth none) (hk28 : ∀ (mem : Mm) (x2 : Int32) (x3 : Int32) (x4 : Int32) (x5 : Int32) (x6 : Int32) (H : Heap) (locs : List Loc) (ls : Array Slot) , Wd D ca ad layM (AA ad layM.length) s.heap s mem H locs → lv_has ls 10 [(0, .ref (ad 0)), (2, .int x2), (3, .int x3), (4, .int x4), (5, .int x5), (6, .int x6)] → k28 mem x2 x3 x4 x5 x6 = some (mem', r) → W p l e (rmx 4 98) s m args below meth c H locs 0 0 (EndV D ca ad layM mem' below args s) (F0 m 28 ls [])) (hk102 : ∀ (mem : Mm) (x2 : Int32) (x3 : Int32) (x4 : Int32) (x5 : Int32) (x6 : Int32) (x8 : Int32) (x9 : Int32) (H : Heap) (locs : List Loc) (ls : Array Slot) , Wd D ca ad layM (AA ad layM.length) s.heap s mem H locs → lv_has ls 10 [(0, .ref (ad 0)), (2, .int x2), (3, .int x3), (4, .int x4), (5, .int x5), (6, .int x6), (8, .int x8), (9, .int x9)] → k102 mem x2 x3 x4 x5 x6 x8 x9 = some (mem', r) → W p l e (rmx 4 98) s m args below meth c H locs 0 0 (EndV D ca ad layM mem' below args s) (F0 m 102 ls []))  (w : Wd D ca ad layM (AA ad layM.length) s.heap s mem H locs) (hl : lv_has ls 10 [(0, .ref (ad 0)), (2, .int x2), (3, .int x3), (4, .int x4), (5, .int x5), (6, .int x6), (8, .int x8), (9, .int x9)]) (h : fX9_laysWays_b102_s k28 k102 mem x2 x3 x4 x5 x6 x8 x9 = some (mem', r)) : W p l e (rmx 4 98) s m args below meth c H locs 0 0 (EndV D ca ad layM mem' below args s) (F0 m 102 ls []) := by
  unfold fX9_laysWays_b102_s at h
  refine lv_iload X.1 X.2.1 dX9_laysWays_102 (lv_at hl 7 rfl) ?_
  refine lv_iload X.1 X.2.1 dX9_laysWays_104 (lv_at hl 6 rfl) ?_
  refine lv_icmp_ge (tgt := 159) X.1 X.2.1 dX9_laysWays_106 (by decide) (fun c1 => ?_) (fun c1 => ?_)
  · rw [if_pos c1] at h
    refine lv_iinc (v := (x6 + (1 : Int32))) (lv' := [(6, .int (x6 + (1 : Int32))), (0, .ref (ad 0)), (2, .int x2), (3, .int x3), (4, .int x4), (5, .int x5), (8, .int x8), (9, .int x9)]) X.1 X.2.1 dX9_laysWays_159 hl (k := 5) rfl rfl (by decide) rfl (fun ls hl => ?_)
    refine lv_goto (tgt := 28) X.1 X.2.1 dX9_laysWays_162 (by decide) ?_
    exact hk28 _ _ _ _ _ _ H locs ls w (lv_sub hl [1, 2, 3, 4, 5, 0] rfl) h
  · rw [if_neg c1] at h
    refine lv_aload_n X.1 X.2.1 dX9_laysWays_109 rfl (lv_at hl 0 rfl) ?_
    refine lv_aload_n X.1 X.2.1 dX9_laysWays_110 rfl (lv_at hl 0 rfl) ?_
    refine r_getr (b2 := 9) X w lyM_0 rfl inT9 21 rfl rfl (by decide) rfl tw_923 dX9_laysWays_111 ?_
    refine lv_iload X.1 X.2.1 dX9_laysWays_114 (lv_at hl 7 rfl) ?_
    obtain ⟨hi2, h⟩ := gd_some h
    refine r_iald X w lyM_9 hi2 dX9_laysWays_116 ?_
    refine lv_iload_n X.1 X.2.1 dX9_laysWays_117 rfl (lv_at hl 1 rfl) ?_
    refine lv_iconst (v := (2 : Int32)) X.1 X.2.1 dX9_laysWays_118 (by decide) ?_
    refine lv_iload X.1 X.2.1 dX9_laysWays_119 (lv_at hl 3 rfl) ?_
    obtain ⟨m4, r3, hr3, h⟩ := bw_some h
    refine r_cVv (As := [.int (mem 9 x9.toNatClampNeg), .int x2, .int (2 : Int32), .int x4]) (rest := []) X w lyM_0 rfl (kX9_permits  l D ca ad mem (mem 9 x9.toNatClampNeg) x2 (2 : Int32) x4  hr3) (gTV tw_1205 tw_1207 tw_58 tw_75 tw_1208) hdX9_permits (by decide) rfl hl.1 rfl (Nat.le_of_ble_eq_true rfl) dX9_laysWays_121 ⟨Nat.zero_le _, Nat.zero_le _⟩ (fun H locs w => ?_)
    refine lv_aload_n X.1 X.2.1 dX9_laysWays_124 rfl (lv_at hl 0 rfl) ?_
    refine r_getr (b2 := 9) X w lyM_0 rfl inT9 21 rfl rfl (by decide) rfl tw_923 dX9_laysWays_125 ?_
    refine lv_iload X.1 X.2.1 dX9_laysWays_128 (lv_at hl 7 rfl) ?_
    obtain ⟨hi5, h⟩ := gd_some h
    refine r_iald X w lyM_9 hi5 dX9_laysWays_130 ?_
    refine r_cSi (As := [.int (m4 9 x9.toNatClampNeg)]) (rest := []) X w (kX9_whatOf  l D ca ad m4 (m4 9 x9.toNatClampNeg)  rfl) (gTS tw_993 tw_994 tw_75 tw_995) hdX9_whatOf (by decide) rfl hl.1 rfl (Nat.le_of_ble_eq_true rfl) dX9_laysWays_131 ⟨Nat.zero_le _, Nat.zero_le _⟩ (fun H locs w => ?_)
    refine lv_iconst (v := (1 : Int32)) X.1 X.2.1 dX9_laysWays_134 (by decide) ?_
    refine lv_icmp_ne (tgt := 153) X.1 X.2.1 dX9_laysWays_135 (by decide) (fun c6 => ?_) (fun c6 => ?_)
    · rw [if_neg c6] at h
      refine lv_iinc (v := (x9 + (1 : Int32))) (lv' := [(9, .int (x9 + (1 : Int32))), (0, .ref (ad 0)), (2, .int x2), (3, .int x3), (4, .int x4), (5, .int x5), (6, .int x6), (8, .int x8)]) X.1 X.2.1 dX9_laysWays_153 hl (k := 7) rfl rfl (by decide) rfl (fun ls hl => ?_)
      refine lv_goto (tgt := 102) X.1 X.2.1 dX9_laysWays_156 (by decide) ?_
      exact hk102 _ _ _ _ _ _ _ _ H locs ls w (lv_sub hl [1, 2, 3, 4, 5, 6, 7, 0] rfl) h
    · rw [if_pos c6] at h
      refine lv_aload_n X.1 X.2.1 dX9_laysWays_138 rfl (lv_at hl 0 rfl) ?_
      refine lv_aload_n X.1 X.2.1 dX9_laysWays_139 rfl (lv_at hl 0 rfl) ?_
      refine r_getr (b2 := 9) X w lyM_0 rfl inT9 21 rfl rfl (by decide) rfl tw_923 dX9_laysWays_140 ?_
      refine lv_iload X.1 X.2.1 dX9_laysWays_143 (lv_at hl 7 rfl) ?_
      obtain ⟨hi7, h⟩ := gd_some h
      refine r_iald X w lyM_9 hi7 dX9_laysWays_145 ?_
      refine lv_iload_n X.1 X.2.1 dX9_laysWays_146 rfl (lv_at hl 1 rfl) ?_
      refine lv_iload_n X.1 X.2.1 dX9_laysWays_147 rfl (lv_at hl 2 rfl) ?_
      refine lv_iload X.1 X.2.1 dX9_laysWays_148 (lv_at hl 3 rfl) ?_
      obtain ⟨m9, r8, hr8, h⟩ := bw_some h
      refine r_cVv (As := [.int (m4 9 x9.toNatClampNeg), .int x2, .int x3, .int x4]) (rest := []) X w lyM_0 rfl (kX9_laysMid  l D ca ad m4 (m4 9 x9.toNatClampNeg) x2 x3 x4  hr8) (gTV tw_1209 tw_1211 tw_59 tw_75 tw_1212) hdX9_laysMid (by decide) rfl hl.1 rfl (Nat.le_of_ble_eq_true rfl) dX9_laysWays_150 ⟨Nat.zero_le _, Nat.zero_le _⟩ (fun H locs w => ?_)
      refine lv_iinc (v := (x9 + (1 : Int32))) (lv' := [(9, .int (x9 + (1 : Int32))), (0, .ref (ad 0)), (2, .int x2), (3, .int x3), (4, .int x4), (5, .int x5), (6, .int x6), (8, .int x8)]) X.1 X.2.1 dX9_laysWays_153 hl (k := 7) rfl rfl (by decide) rfl (fun ls hl => ?_)
      refine lv_goto (tgt := 102) X.1 X.2.1 dX9_laysWays_156 (by decide) ?_
      exact hk102 _ _ _ _ _ _ _ _ H locs ls w (lv_sub hl [1, 2, 3, 4, 5, 6, 7, 0] rfl) h
set_option maxRecDepth 100000 in
set_option maxHeartbeats 4000000 in
theorem wX9_laysWays_b102 {p : Program} {l : Launch} {e : Env} {s : State} {m : MethodId} {args : Array Value} {below : List Frame} {meth : Method} {c : Code} {D : va_G} {ca : Nat → ClassId} {ad : Nat → Nat} {k28 : Mm → Int32 → Int32 → Int32 → Int32 → Int32 → Option (Mm × Unit)} {mem' : Mm} {r : Unit} (X : CallFix p m c cX9_laysWays 10 s args TT RX9) (M : Mt meth none) (hk28 : ∀ (mem : Mm) (x2 : Int32) (x3 : Int32) (x4 : Int32) (x5 : Int32) (x6 : Int32) (H : Heap) (locs : List Loc) (ls : Array Slot) , Wd D ca ad layM (AA ad layM.length) s.heap s mem H locs → lv_has ls 10 [(0, .ref (ad 0)), (2, .int x2), (3, .int x3), (4, .int x4), (5, .int x5), (6, .int x6)] → k28 mem x2 x3 x4 x5 x6 = some (mem', r) → W p l e (rmx 4 98) s m args below meth c H locs 0 0 (EndV D ca ad layM mem' below args s) (F0 m 28 ls [])) : ∀ (n : Nat) (mem : Mm) (x2 : Int32) (x3 : Int32) (x4 : Int32) (x5 : Int32) (x6 : Int32) (x8 : Int32) (x9 : Int32) (H : Heap) (locs : List Loc) (ls : Array Slot)  (_ : Wd D ca ad layM (AA ad layM.length) s.heap s mem H locs) (_ : lv_has ls 10 [(0, .ref (ad 0)), (2, .int x2), (3, .int x3), (4, .int x4), (5, .int x5), (6, .int x6), (8, .int x8), (9, .int x9)]) (_ : fX9_laysWays_b102 k28 n mem x2 x3 x4 x5 x6 x8 x9 = some (mem', r)), W p l e (rmx 4 98) s m args below meth c H locs 0 0 (EndV D ca ad layM mem' below args s) (F0 m 102 ls []) := by
  intro n
  induction n with
  | zero => intro mem x2 x3 x4 x5 x6 x8 x9 H locs ls  w hl h; exact (nofun : (none : Option (Mm × Unit)) = _ → _) h
  | succ n ih => intro mem x2 x3 x4 x5 x6 x8 x9 H locs ls  w hl h; exact wX9_laysWays_b102_s X M hk28 ih  w hl h
def fX9_laysWays_b61 (k28 : Mm → Int32 → Int32 → Int32 → Int32 → Int32 → Option (Mm × Unit)) (mem : Mm) (x2 : Int32) (x3 : Int32) (x4 : Int32) (x5 : Int32) (x6 : Int32) (s0 : Int32) : Option (Mm × Unit) :=
  gd x6 41 (if 0 ≤ (mem 8 x6.toNatClampNeg) then gd ((0 : Int32) + s0) 345 (bw (fX9_valuesOf mem s0 (mem 1 ((0 : Int32) + s0).toNatClampNeg) x3 9) (fun m5 r4 => fX9_laysWays_b102 k28 2000 m5 x2 x3 x4 x5 x6 r4 (0 : Int32))) else fX9_laysWays_b102 k28 2000 mem x2 x3 x4 x5 x6 (0 : Int32) (0 : Int32))
set_option maxRecDepth 100000 in
set_option maxHeartbeats 4000000 in
theorem wX9_laysWays_b61 {p : Program} {l : Launch} {e : Env} {s : State} {m : MethodId} {args : Array Value} {below : List Frame} {meth : Method} {c : Code} {D : va_G} {ca : Nat → ClassId} {ad : Nat → Nat} {H : Heap} {locs : List Loc} {ls : Array Slot} {mem : Mm} {x2 : Int32} {x3 : Int32} {x4 : Int32} {x5 : Int32} {x6 : Int32} {s0 : Int32} {k28 : Mm → Int32 → Int32 → Int32 → Int32 → Int32 → Option (Mm × Unit)} {mem' : Mm} {r : Unit} (X : CallFix p m c cX9_laysWays 10 s args TT RX9) (M : Mt meth none) (hk28 : ∀ (mem : Mm) (x2 : Int32) (x3 : Int32) (x4 : Int32) (x5 : Int32) (x6 : Int32) (H : Heap) (locs : List Loc) (ls : Array Slot) , Wd D ca ad layM (AA ad layM.length) s.heap s mem H locs → lv_has ls 10 [(0, .ref (ad 0)), (2, .int x2), (3, .int x3), (4, .int x4), (5, .int x5), (6, .int x6)] → k28 mem x2 x3 x4 x5 x6 = some (mem', r) → W p l e (rmx 4 98) s m args below meth c H locs 0 0 (EndV D ca ad layM mem' below args s) (F0 m 28 ls []))  (w : Wd D ca ad layM (AA ad layM.length) s.heap s mem H locs) (hl : lv_has ls 10 [(0, .ref (ad 0)), (2, .int x2), (3, .int x3), (4, .int x4), (5, .int x5), (6, .int x6)]) (h : fX9_laysWays_b61 k28 mem x2 x3 x4 x5 x6 s0 = some (mem', r)) : W p l e (rmx 4 98) s m args below meth c H locs 0 0 (EndV D ca ad layM mem' below args s) (F0 m 61 ls [.int s0]) := by
  unfold fX9_laysWays_b61 at h
  refine lv_istore (lv' := [(7, .int s0), (0, .ref (ad 0)), (2, .int x2), (3, .int x3), (4, .int x4), (5, .int x5), (6, .int x6)]) X.1 X.2.1 dX9_laysWays_61 hl (by decide) rfl (fun ls hl => ?_)
  refine lv_aload_n X.1 X.2.1 dX9_laysWays_63 rfl (lv_at hl 1 rfl) ?_
  refine r_getr (b2 := 8) X w lyM_0 rfl inT9 20 rfl rfl (by decide) rfl tw_922 dX9_laysWays_64 ?_
  refine lv_iload X.1 X.2.1 dX9_laysWays_67 (lv_at hl 6 rfl) ?_
  obtain ⟨hi1, h⟩ := gd_some h
  refine r_iald X w lyM_8 hi1 dX9_laysWays_69 ?_
  refine lv_if_ge (tgt := 77) X.1 X.2.1 dX9_laysWays_70 (by decide) (fun c2 => ?_) (fun c2 => ?_)
  · rw [if_pos c2] at h
    refine lv_aload_n X.1 X.2.1 dX9_laysWays_77 rfl (lv_at hl 1 rfl) ?_
    refine lv_iload X.1 X.2.1 dX9_laysWays_78 (lv_at hl 0 rfl) ?_
    refine lv_aload_n X.1 X.2.1 dX9_laysWays_80 rfl (lv_at hl 1 rfl) ?_
    refine r_getr (b2 := 1) X w lyM_0 rfl inT9 1 rfl rfl (by decide) rfl tw_903 dX9_laysWays_81 ?_
    refine lv_iconst (v := (0 : Int32)) X.1 X.2.1 dX9_laysWays_84 (by decide) ?_
    refine lv_iload X.1 X.2.1 dX9_laysWays_85 (lv_at hl 0 rfl) ?_
    refine lv_iadd X.1 X.2.1 dX9_laysWays_87 ?_
    obtain ⟨hi3, h⟩ := gd_some h
    refine r_iald X w lyM_1 hi3 dX9_laysWays_88 ?_
    refine lv_iload_n X.1 X.2.1 dX9_laysWays_89 rfl (lv_at hl 3 rfl) ?_
    refine lv_aload_n X.1 X.2.1 dX9_laysWays_90 rfl (lv_at hl 1 rfl) ?_
    refine r_getr (b2 := 9) X w lyM_0 rfl inT9 21 rfl rfl (by decide) rfl tw_923 dX9_laysWays_91 ?_
    obtain ⟨m5, r4, hr4, h⟩ := bw_some h
    refine r_cVi (As := [.int s0, .int (mem 1 ((0 : Int32) + s0).toNatClampNeg), .int x3, .ref (ad 9)]) (rest := []) X w lyM_0 rfl (kX9_valuesOf  l D ca ad mem s0 (mem 1 ((0 : Int32) + s0).toNatClampNeg) x3 9 lyM_9 hr4) (gTV tw_1201 tw_1203 tw_57 tw_75 tw_1204) hdX9_valuesOf (by decide) rfl hl.1 rfl (Nat.le_of_ble_eq_true rfl) dX9_laysWays_94 ⟨Nat.zero_le _, Nat.zero_le _⟩ (fun H locs w => ?_)
    refine lv_istore (lv' := [(8, .int r4), (7, .int s0), (0, .ref (ad 0)), (2, .int x2), (3, .int x3), (4, .int x4), (5, .int x5), (6, .int x6)]) X.1 X.2.1 dX9_laysWays_97 hl (by decide) rfl (fun ls hl => ?_)
    refine lv_iconst (v := (0 : Int32)) X.1 X.2.1 dX9_laysWays_99 (by decide) ?_
    refine lv_istore (lv' := [(9, .int (0 : Int32)), (8, .int r4), (7, .int s0), (0, .ref (ad 0)), (2, .int x2), (3, .int x3), (4, .int x4), (5, .int x5), (6, .int x6)]) X.1 X.2.1 dX9_laysWays_100 hl (by decide) rfl (fun ls hl => ?_)
    exact wX9_laysWays_b102 X M hk28 _ _ _ _ _ _ _ _ _ H locs ls w (lv_sub hl [3, 4, 5, 6, 7, 8, 1, 0] rfl) h
  · rw [if_neg c2] at h
    refine lv_iconst (v := (0 : Int32)) X.1 X.2.1 dX9_laysWays_73 (by decide) ?_
    refine lv_goto (tgt := 97) X.1 X.2.1 dX9_laysWays_74 (by decide) ?_
    refine lv_istore (lv' := [(8, .int (0 : Int32)), (7, .int s0), (0, .ref (ad 0)), (2, .int x2), (3, .int x3), (4, .int x4), (5, .int x5), (6, .int x6)]) X.1 X.2.1 dX9_laysWays_97 hl (by decide) rfl (fun ls hl => ?_)
    refine lv_iconst (v := (0 : Int32)) X.1 X.2.1 dX9_laysWays_99 (by decide) ?_
    refine lv_istore (lv' := [(9, .int (0 : Int32)), (8, .int (0 : Int32)), (7, .int s0), (0, .ref (ad 0)), (2, .int x2), (3, .int x3), (4, .int x4), (5, .int x5), (6, .int x6)]) X.1 X.2.1 dX9_laysWays_100 hl (by decide) rfl (fun ls hl => ?_)
    exact wX9_laysWays_b102 X M hk28 _ _ _ _ _ _ _ _ _ H locs ls w (lv_sub hl [3, 4, 5, 6, 7, 8, 1, 0] rfl) h
def fX9_laysWays_b28_s  (k28 : Mm → Int32 → Int32 → Int32 → Int32 → Int32 → Option (Mm × Unit)) (mem : Mm) (x2 : Int32) (x3 : Int32) (x4 : Int32) (x5 : Int32) (x6 : Int32) : Option (Mm × Unit) :=
  if x5 ≤ x6 then some (mem, ()) else gd x6 41 (if 0 ≤ (mem 8 x6.toNatClampNeg) then gd x6 41 (bd (fX9_place (mem 8 x6.toNatClampNeg) x2 (2 : Int32)) (fun r5 => fX9_laysWays_b61 k28 mem x2 x3 x4 x5 x6 r5)) else fX9_laysWays_b61 k28 mem x2 x3 x4 x5 x6 (0 : Int32))
def fX9_laysWays_b28  : Nat → Mm → Int32 → Int32 → Int32 → Int32 → Int32 → Option (Mm × Unit)
  | 0 => fun _ _ _ _ _ _ => none
  | n + 1 => fX9_laysWays_b28_s  (fX9_laysWays_b28  n)
set_option maxRecDepth 100000 in
set_option maxHeartbeats 4000000 in
theorem wX9_laysWays_b28_s {p : Program} {l : Launch} {e : Env} {s : State} {m : MethodId} {args : Array Value} {below : List Frame} {meth : Method} {c : Code} {D : va_G} {ca : Nat → ClassId} {ad : Nat → Nat} {H : Heap} {locs : List Loc} {ls : Array Slot} {mem : Mm} {x2 : Int32} {x3 : Int32} {x4 : Int32} {x5 : Int32} {x6 : Int32}  {k28 : Mm → Int32 → Int32 → Int32 → Int32 → Int32 → Option (Mm × Unit)} {mem' : Mm} {r : Unit} (X : CallFix p m c cX9_laysWays 10 s args TT RX9) (M : Mt meth none)  (hk28 : ∀ (mem : Mm) (x2 : Int32) (x3 : Int32) (x4 : Int32) (x5 : Int32) (x6 : Int32) (H : Heap) (locs : List Loc) (ls : Array Slot) , Wd D ca ad layM (AA ad layM.length) s.heap s mem H locs → lv_has ls 10 [(0, .ref (ad 0)), (2, .int x2), (3, .int x3), (4, .int x4), (5, .int x5), (6, .int x6)] → k28 mem x2 x3 x4 x5 x6 = some (mem', r) → W p l e (rmx 4 98) s m args below meth c H locs 0 0 (EndV D ca ad layM mem' below args s) (F0 m 28 ls []))  (w : Wd D ca ad layM (AA ad layM.length) s.heap s mem H locs) (hl : lv_has ls 10 [(0, .ref (ad 0)), (2, .int x2), (3, .int x3), (4, .int x4), (5, .int x5), (6, .int x6)]) (h : fX9_laysWays_b28_s  k28 mem x2 x3 x4 x5 x6 = some (mem', r)) : W p l e (rmx 4 98) s m args below meth c H locs 0 0 (EndV D ca ad layM mem' below args s) (F0 m 28 ls []) := by
  unfold fX9_laysWays_b28_s at h
  refine lv_iload X.1 X.2.1 dX9_laysWays_28 (lv_at hl 5 rfl) ?_
  refine lv_iload X.1 X.2.1 dX9_laysWays_30 (lv_at hl 4 rfl) ?_
  refine lv_icmp_ge (tgt := 165) X.1 X.2.1 dX9_laysWays_32 (by decide) (fun c1 => ?_) (fun c1 => ?_)
  · rw [if_pos c1] at h
    obtain ⟨rfl, -⟩ := Prod.mk.inj (Option.some.inj h)
    exact r_vret X M w dX9_laysWays_165
  · rw [if_neg c1] at h
    refine lv_aload_n X.1 X.2.1 dX9_laysWays_35 rfl (lv_at hl 0 rfl) ?_
    refine r_getr (b2 := 8) X w lyM_0 rfl inT9 20 rfl rfl (by decide) rfl tw_922 dX9_laysWays_36 ?_
    refine lv_iload X.1 X.2.1 dX9_laysWays_39 (lv_at hl 5 rfl) ?_
    obtain ⟨hi2, h⟩ := gd_some h
    refine r_iald X w lyM_8 hi2 dX9_laysWays_41 ?_
    refine lv_if_ge (tgt := 49) X.1 X.2.1 dX9_laysWays_42 (by decide) (fun c3 => ?_) (fun c3 => ?_)
    · rw [if_pos c3] at h
      refine lv_aload_n X.1 X.2.1 dX9_laysWays_49 rfl (lv_at hl 0 rfl) ?_
      refine r_getr (b2 := 8) X w lyM_0 rfl inT9 20 rfl rfl (by decide) rfl tw_922 dX9_laysWays_50 ?_
      refine lv_iload X.1 X.2.1 dX9_laysWays_53 (lv_at hl 5 rfl) ?_
      obtain ⟨hi4, h⟩ := gd_some h
      refine r_iald X w lyM_8 hi4 dX9_laysWays_55 ?_
      refine lv_iload_n X.1 X.2.1 dX9_laysWays_56 rfl (lv_at hl 1 rfl) ?_
      refine lv_iconst (v := (2 : Int32)) X.1 X.2.1 dX9_laysWays_57 (by decide) ?_
      obtain ⟨r5, hr5, h⟩ := bd_some h
      refine r_cSi (As := [.int (mem 8 x6.toNatClampNeg), .int x2, .int (2 : Int32)]) (rest := []) X w (kX9_place  l D ca ad mem (mem 8 x6.toNatClampNeg) x2 (2 : Int32)  hr5) (gTS tw_1081 tw_1082 tw_75 tw_1083) hdX9_place (by decide) rfl hl.1 rfl (Nat.le_of_ble_eq_true rfl) dX9_laysWays_58 ⟨Nat.zero_le _, Nat.zero_le _⟩ (fun H locs w => ?_)
      exact wX9_laysWays_b61 X M hk28 w (lv_sub hl [0, 1, 2, 3, 4, 5] rfl) h
    · rw [if_neg c3] at h
      refine lv_iconst (v := (0 : Int32)) X.1 X.2.1 dX9_laysWays_45 (by decide) ?_
      refine lv_goto (tgt := 61) X.1 X.2.1 dX9_laysWays_46 (by decide) ?_
      exact wX9_laysWays_b61 X M hk28 w (lv_sub hl [0, 1, 2, 3, 4, 5] rfl) h
set_option maxRecDepth 100000 in
set_option maxHeartbeats 4000000 in
theorem wX9_laysWays_b28 {p : Program} {l : Launch} {e : Env} {s : State} {m : MethodId} {args : Array Value} {below : List Frame} {meth : Method} {c : Code} {D : va_G} {ca : Nat → ClassId} {ad : Nat → Nat}  {mem' : Mm} {r : Unit} (X : CallFix p m c cX9_laysWays 10 s args TT RX9) (M : Mt meth none)  : ∀ (n : Nat) (mem : Mm) (x2 : Int32) (x3 : Int32) (x4 : Int32) (x5 : Int32) (x6 : Int32) (H : Heap) (locs : List Loc) (ls : Array Slot)  (_ : Wd D ca ad layM (AA ad layM.length) s.heap s mem H locs) (_ : lv_has ls 10 [(0, .ref (ad 0)), (2, .int x2), (3, .int x3), (4, .int x4), (5, .int x5), (6, .int x6)]) (_ : fX9_laysWays_b28  n mem x2 x3 x4 x5 x6 = some (mem', r)), W p l e (rmx 4 98) s m args below meth c H locs 0 0 (EndV D ca ad layM mem' below args s) (F0 m 28 ls []) := by
  intro n
  induction n with
  | zero => intro mem x2 x3 x4 x5 x6 H locs ls  w hl h; exact (nofun : (none : Option (Mm × Unit)) = _ → _) h
  | succ n ih => intro mem x2 x3 x4 x5 x6 H locs ls  w hl h; exact wX9_laysWays_b28_s X M  ih  w hl h
def fX9_laysWays (mem : Mm) (a1 : Int32) (a2 : Int32) (a3 : Int32) (a4 : Int32) : Option (Mm × Unit) :=
  gd ((326 : Int32) + a1) 345 (bw (fX9_valuesOf mem ((96 : Int32) + a1) (mem 1 ((326 : Int32) + a1).toNatClampNeg) a3 8) (fun m3 r2 => fX9_laysWays_b28 2000 m3 a2 a3 a4 r2 (0 : Int32)))
set_option maxRecDepth 100000 in
set_option maxHeartbeats 4000000 in
theorem kX9_laysWays (l : Launch) (D : va_G) (ca : Nat → ClassId) (ad : Nat → Nat) (mem : Mm) (a1 : Int32) (a2 : Int32) (a3 : Int32) (a4 : Int32)  {mem' : Mm} {r : Unit} (h : fX9_laysWays mem a1 a2 a3 a4 = some (mem', r)) : CtV l yX9_laysWays cX9_laysWays 10 none (rmx 4 98) D ca ad layM mem [.ref (ad 0), .int a1, .int a2, .int a3, .int a4] mem' := by
  refine CtV.of (by decide) (Nat.le_of_ble_eq_true rfl) ?_
  intro p e s m args below meth c H locs ls X M w hl
  replace X : CallFix p m c cX9_laysWays 10 s args TT RX9 := X
  replace hl : lv_has ls 10 [(0, .ref (ad 0)), (1, .int a1), (2, .int a2), (3, .int a3), (4, .int a4)] := hl
  unfold fX9_laysWays at h
  refine lv_aload_n X.1 X.2.1 dX9_laysWays_0 rfl (lv_at hl 0 rfl) ?_
  refine lv_bipush (v := (96 : Int32)) X.1 X.2.1 dX9_laysWays_1 (by decide) ?_
  refine lv_iload_n X.1 X.2.1 dX9_laysWays_3 rfl (lv_at hl 1 rfl) ?_
  refine lv_iadd X.1 X.2.1 dX9_laysWays_4 ?_
  refine lv_aload_n X.1 X.2.1 dX9_laysWays_5 rfl (lv_at hl 0 rfl) ?_
  refine r_getr (b2 := 1) X w lyM_0 rfl inT9 1 rfl rfl (by decide) rfl tw_903 dX9_laysWays_6 ?_
  refine lv_sipush (v := (326 : Int32)) X.1 X.2.1 dX9_laysWays_9 (by decide) ?_
  refine lv_iload_n X.1 X.2.1 dX9_laysWays_12 rfl (lv_at hl 1 rfl) ?_
  refine lv_iadd X.1 X.2.1 dX9_laysWays_13 ?_
  obtain ⟨hi1, h⟩ := gd_some h
  refine r_iald X w lyM_1 hi1 dX9_laysWays_14 ?_
  refine lv_iload_n X.1 X.2.1 dX9_laysWays_15 rfl (lv_at hl 3 rfl) ?_
  refine lv_aload_n X.1 X.2.1 dX9_laysWays_16 rfl (lv_at hl 0 rfl) ?_
  refine r_getr (b2 := 8) X w lyM_0 rfl inT9 20 rfl rfl (by decide) rfl tw_922 dX9_laysWays_17 ?_
  obtain ⟨m3, r2, hr2, h⟩ := bw_some h
  refine r_cVi (As := [.int ((96 : Int32) + a1), .int (mem 1 ((326 : Int32) + a1).toNatClampNeg), .int a3, .ref (ad 8)]) (rest := []) X w lyM_0 rfl (kX9_valuesOf  l D ca ad mem ((96 : Int32) + a1) (mem 1 ((326 : Int32) + a1).toNatClampNeg) a3 8 lyM_8 hr2) (gTV tw_1201 tw_1203 tw_57 tw_75 tw_1204) hdX9_valuesOf (by decide) rfl hl.1 rfl (Nat.le_of_ble_eq_true rfl) dX9_laysWays_20 ⟨Nat.zero_le _, Nat.zero_le _⟩ (fun H locs w => ?_)
  refine lv_istore (lv' := [(5, .int r2), (0, .ref (ad 0)), (1, .int a1), (2, .int a2), (3, .int a3), (4, .int a4)]) X.1 X.2.1 dX9_laysWays_23 hl (by decide) rfl (fun ls hl => ?_)
  refine lv_iconst (v := (0 : Int32)) X.1 X.2.1 dX9_laysWays_25 (by decide) ?_
  refine lv_istore (lv' := [(6, .int (0 : Int32)), (5, .int r2), (0, .ref (ad 0)), (1, .int a1), (2, .int a2), (3, .int a3), (4, .int a4)]) X.1 X.2.1 dX9_laysWays_26 hl (by decide) rfl (fun ls hl => ?_)
  exact wX9_laysWays_b28 X M _ _ _ _ _ _ _ H locs ls w (lv_sub hl [2, 4, 5, 6, 1, 0] rfl) h
/-! WalkHouseModel.later(II)I (T) -/
theorem hdX9_later : yX9_later.cls ≠ "java/lang/invoke/MethodHandle" ∧ yX9_later.cls ≠ "java/lang/invoke/VarHandle" ∧ (parseMethodDescriptor yX9_later.desc).map (fun d => d.parameters.length) = some 2 := by decide +kernel
def fX9_later (a0 : Int32) (a1 : Int32) : Int32 :=
  if a0 ≤ a1 then a1 else a0
set_option maxRecDepth 100000 in
set_option maxHeartbeats 4000000 in
theorem kX9_later (l : Launch) (D : va_G) (ca : Nat → ClassId) (ad : Nat → Nat) (mem : Mm) (a0 : Int32) (a1 : Int32)  {r : Int32} (h : fX9_later a0 a1 = r) : CtI l yX9_later cX9_later 2 (some .int) (rmx 0 0) D ca ad layM mem [.int a0, .int a1] mem r := by
  refine CtI.of (by decide) (Nat.le_of_ble_eq_true rfl) ?_
  intro p e s m args below meth c H locs ls X M w hl
  replace X : CallFix p m c cX9_later 2 s args TT RX9 := X
  replace hl : lv_has ls 2 [(0, .int a0), (1, .int a1)] := hl
  unfold fX9_later at h
  refine lv_iload_n X.1 X.2.1 dX9_later_0 rfl (lv_at hl 0 rfl) ?_
  refine lv_iload_n X.1 X.2.1 dX9_later_1 rfl (lv_at hl 1 rfl) ?_
  refine lv_icmp_le (tgt := 9) X.1 X.2.1 dX9_later_2 (by decide) (fun c1 => ?_) (fun c1 => ?_)
  · rw [if_pos c1] at h
    refine lv_iload_n X.1 X.2.1 dX9_later_9 rfl (lv_at hl 1 rfl) ?_
    subst h
    exact r_iret X M w dX9_later_10
  · rw [if_neg c1] at h
    refine lv_iload_n X.1 X.2.1 dX9_later_5 rfl (lv_at hl 0 rfl) ?_
    refine lv_goto (tgt := 10) X.1 X.2.1 dX9_later_6 (by decide) ?_
    subst h
    exact r_iret X M w dX9_later_10
/-! WalkHouseModel.laysPermitted(II)V (W) -/
theorem hdX9_laysPermitted : yX9_laysPermitted.cls = RX9 ∧ yX9_laysPermitted.cls ≠ "java/lang/invoke/MethodHandle" ∧ yX9_laysPermitted.cls ≠ "java/lang/invoke/VarHandle" ∧ (parseMethodDescriptor yX9_laysPermitted.desc).map (fun d => d.parameters.length) = some 2 := by decide +kernel
def fX9_laysPermitted_b62_s  (k62 : Mm → Int32 → Int32 → Option (Mm × Unit)) (mem : Mm) (x2 : Int32) (x4 : Int32) : Option (Mm × Unit) :=
  if (6 : Int32) ≤ x4 then some (mem, ()) else bw (fX9_laysWays mem x4 x2 (mem 0 8) (1 : Int32)) (fun m3 r2 => k62 m3 x2 (x4 + (1 : Int32)))
def fX9_laysPermitted_b62  : Nat → Mm → Int32 → Int32 → Option (Mm × Unit)
  | 0 => fun _ _ _ => none
  | n + 1 => fX9_laysPermitted_b62_s  (fX9_laysPermitted_b62  n)
set_option maxRecDepth 100000 in
set_option maxHeartbeats 4000000 in
theorem wX9_laysPermitted_b62_s {p : Program} {l : Launch} {e : Env} {s : State} {m : MethodId} {args : Array Value} {below : List Frame} {meth : Method} {c : Code} {D : va_G} {ca : Nat → ClassId} {ad : Nat → Nat} {H : Heap} {locs : List Loc} {ls : Array Slot} {mem : Mm} {x2 : Int32} {x4 : Int32}  {k62 : Mm → Int32 → Int32 → Option (Mm × Unit)} {mem' : Mm} {r : Unit} (X : CallFix p m c cX9_laysPermitted 5 s args TT RX9) (M : Mt meth none)  (hk62 : ∀ (mem : Mm) (x2 : Int32) (x4 : Int32) (H : Heap) (locs : List Loc) (ls : Array Slot) , Wd D ca ad layM (AA ad layM.length) s.heap s mem H locs → lv_has ls 5 [(0, .ref (ad 0)), (2, .int x2), (4, .int x4)] → k62 mem x2 x4 = some (mem', r) → W p l e (rmx 5 127) s m args below meth c H locs 0 0 (EndV D ca ad layM mem' below args s) (F0 m 62 ls []))  (w : Wd D ca ad layM (AA ad layM.length) s.heap s mem H locs) (hl : lv_has ls 5 [(0, .ref (ad 0)), (2, .int x2), (4, .int x4)]) (h : fX9_laysPermitted_b62_s  k62 mem x2 x4 = some (mem', r)) : W p l e (rmx 5 127) s m args below meth c H locs 0 0 (EndV D ca ad layM mem' below args s) (F0 m 62 ls []) := by
  unfold fX9_laysPermitted_b62_s at h
  refine lv_iload X.1 X.2.1 dX9_laysPermitted_62 (lv_at hl 2 rfl) ?_
  refine lv_bipush (v := (6 : Int32)) X.1 X.2.1 dX9_laysPermitted_64 (by decide) ?_
  refine lv_icmp_ge (tgt := 87) X.1 X.2.1 dX9_laysPermitted_66 (by decide) (fun c1 => ?_) (fun c1 => ?_)
  · rw [if_pos c1] at h
    obtain ⟨rfl, -⟩ := Prod.mk.inj (Option.some.inj h)
    exact r_vret X M w dX9_laysPermitted_87
  · rw [if_neg c1] at h
    refine lv_aload_n X.1 X.2.1 dX9_laysPermitted_69 rfl (lv_at hl 0 rfl) ?_
    refine lv_iload X.1 X.2.1 dX9_laysPermitted_70 (lv_at hl 2 rfl) ?_
    refine lv_iload_n X.1 X.2.1 dX9_laysPermitted_72 rfl (lv_at hl 1 rfl) ?_
    refine lv_aload_n X.1 X.2.1 dX9_laysPermitted_73 rfl (lv_at hl 0 rfl) ?_
    refine r_get X w lyM_0 rfl inT9 8 rfl (by decide) rfl tw_910 dX9_laysPermitted_74 ?_
    refine lv_iconst (v := (1 : Int32)) X.1 X.2.1 dX9_laysPermitted_77 (by decide) ?_
    obtain ⟨m3, r2, hr2, h⟩ := bw_some h
    refine r_cVv (As := [.int x4, .int x2, .int (mem 0 8), .int (1 : Int32)]) (rest := []) X w lyM_0 rfl (kX9_laysWays  l D ca ad mem x4 x2 (mem 0 8) (1 : Int32)  hr2) (gTV tw_1197 tw_1199 tw_56 tw_75 tw_1200) hdX9_laysWays (by decide) rfl hl.1 rfl (Nat.le_of_ble_eq_true rfl) dX9_laysPermitted_78 ⟨Nat.zero_le _, Nat.zero_le _⟩ (fun H locs w => ?_)
    refine lv_iinc (v := (x4 + (1 : Int32))) (lv' := [(4, .int (x4 + (1 : Int32))), (0, .ref (ad 0)), (2, .int x2)]) X.1 X.2.1 dX9_laysPermitted_81 hl (k := 2) rfl rfl (by decide) rfl (fun ls hl => ?_)
    refine lv_goto (tgt := 62) X.1 X.2.1 dX9_laysPermitted_84 (by decide) ?_
    exact hk62 _ _ _ H locs ls w (lv_sub hl [1, 2, 0] rfl) h
set_option maxRecDepth 100000 in
set_option maxHeartbeats 4000000 in
theorem wX9_laysPermitted_b62 {p : Program} {l : Launch} {e : Env} {s : State} {m : MethodId} {args : Array Value} {below : List Frame} {meth : Method} {c : Code} {D : va_G} {ca : Nat → ClassId} {ad : Nat → Nat}  {mem' : Mm} {r : Unit} (X : CallFix p m c cX9_laysPermitted 5 s args TT RX9) (M : Mt meth none)  : ∀ (n : Nat) (mem : Mm) (x2 : Int32) (x4 : Int32) (H : Heap) (locs : List Loc) (ls : Array Slot)  (_ : Wd D ca ad layM (AA ad layM.length) s.heap s mem H locs) (_ : lv_has ls 5 [(0, .ref (ad 0)), (2, .int x2), (4, .int x4)]) (_ : fX9_laysPermitted_b62  n mem x2 x4 = some (mem', r)), W p l e (rmx 5 127) s m args below meth c H locs 0 0 (EndV D ca ad layM mem' below args s) (F0 m 62 ls []) := by
  intro n
  induction n with
  | zero => intro mem x2 x4 H locs ls  w hl h; exact (nofun : (none : Option (Mm × Unit)) = _ → _) h
  | succ n ih => intro mem x2 x4 H locs ls  w hl h; exact wX9_laysPermitted_b62_s X M  ih  w hl h
def fX9_laysPermitted_b2_s  (k2 : Mm → Int32 → Int32 → Int32 → Option (Mm × Unit)) (mem : Mm) (x1 : Int32) (x2 : Int32) (x3 : Int32) : Option (Mm × Unit) :=
  if (1100 : Int32) ≤ x3 then gd x1 6 (gd (((512 : Int32) * x1) + x2) 3072 (lk (fX9_later (mem 0 8) (fX9_later (mem 6 x1.toNatClampNeg) (mem 7 (((512 : Int32) * x1) + x2).toNatClampNeg))) (fun x_4 => bw (fX9_laysWays mem x1 x2 x_4 (0 : Int32)) (fun m6 r5 => fX9_laysPermitted_b62 2000 m6 x2 (0 : Int32))))) else gd x3 1100 (wk mem 12 x3.toNatClampNeg (0 : Int32) (fun m8 => k2 m8 x1 x2 (x3 + (1 : Int32))))
def fX9_laysPermitted_b2  : Nat → Mm → Int32 → Int32 → Int32 → Option (Mm × Unit)
  | 0 => fun _ _ _ _ => none
  | n + 1 => fX9_laysPermitted_b2_s  (fX9_laysPermitted_b2  n)
set_option maxRecDepth 100000 in
set_option maxHeartbeats 4000000 in
theorem wX9_laysPermitted_b2_s {p : Program} {l : Launch} {e : Env} {s : State} {m : MethodId} {args : Array Value} {below : List Frame} {meth : Method} {c : Code} {D : va_G} {ca : Nat → ClassId} {ad : Nat → Nat} {H : Heap} {locs : List Loc} {ls : Array Slot} {mem : Mm} {x1 : Int32} {x2 : Int32} {x3 : Int32}  {k2 : Mm → Int32 → Int32 → Int32 → Option (Mm × Unit)} {mem' : Mm} {r : Unit} (X : CallFix p m c cX9_laysPermitted 5 s args TT RX9) (M : Mt meth none)  (hk2 : ∀ (mem : Mm) (x1 : Int32) (x2 : Int32) (x3 : Int32) (H : Heap) (locs : List Loc) (ls : Array Slot) , Wd D ca ad layM (AA ad layM.length) s.heap s mem H locs → lv_has ls 5 [(0, .ref (ad 0)), (1, .int x1), (2, .int x2), (3, .int x3)] → k2 mem x1 x2 x3 = some (mem', r) → W p l e (rmx 5 127) s m args below meth c H locs 0 0 (EndV D ca ad layM mem' below args s) (F0 m 2 ls []))  (w : Wd D ca ad layM (AA ad layM.length) s.heap s mem H locs) (hl : lv_has ls 5 [(0, .ref (ad 0)), (1, .int x1), (2, .int x2), (3, .int x3)]) (h : fX9_laysPermitted_b2_s  k2 mem x1 x2 x3 = some (mem', r)) : W p l e (rmx 5 127) s m args below meth c H locs 0 0 (EndV D ca ad layM mem' below args s) (F0 m 2 ls []) := by
  unfold fX9_laysPermitted_b2_s at h
  refine lv_iload_n X.1 X.2.1 dX9_laysPermitted_2 rfl (lv_at hl 3 rfl) ?_
  refine lv_sipush (v := (1100 : Int32)) X.1 X.2.1 dX9_laysPermitted_3 (by decide) ?_
  refine lv_icmp_ge (tgt := 22) X.1 X.2.1 dX9_laysPermitted_6 (by decide) (fun c1 => ?_) (fun c1 => ?_)
  · rw [if_pos c1] at h
    refine lv_aload_n X.1 X.2.1 dX9_laysPermitted_22 rfl (lv_at hl 0 rfl) ?_
    refine r_get X w lyM_0 rfl inT9 8 rfl (by decide) rfl tw_910 dX9_laysPermitted_23 ?_
    refine lv_aload_n X.1 X.2.1 dX9_laysPermitted_26 rfl (lv_at hl 0 rfl) ?_
    refine r_getr (b2 := 6) X w lyM_0 rfl inT9 9 rfl rfl (by decide) rfl tw_911 dX9_laysPermitted_27 ?_
    refine lv_iload_n X.1 X.2.1 dX9_laysPermitted_30 rfl (lv_at hl 1 rfl) ?_
    obtain ⟨hi2, h⟩ := gd_some h
    refine r_iald X w lyM_6 hi2 dX9_laysPermitted_31 ?_
    refine lv_aload_n X.1 X.2.1 dX9_laysPermitted_32 rfl (lv_at hl 0 rfl) ?_
    refine r_getr (b2 := 7) X w lyM_0 rfl inT9 10 rfl rfl (by decide) rfl tw_912 dX9_laysPermitted_33 ?_
    refine lv_sipush (v := (512 : Int32)) X.1 X.2.1 dX9_laysPermitted_36 (by decide) ?_
    refine lv_iload_n X.1 X.2.1 dX9_laysPermitted_39 rfl (lv_at hl 1 rfl) ?_
    refine lv_imul X.1 X.2.1 dX9_laysPermitted_40 ?_
    refine lv_iload_n X.1 X.2.1 dX9_laysPermitted_41 rfl (lv_at hl 2 rfl) ?_
    refine lv_iadd X.1 X.2.1 dX9_laysPermitted_42 ?_
    obtain ⟨hi3, h⟩ := gd_some h
    refine r_iald X w lyM_7 hi3 dX9_laysPermitted_43 ?_
    refine r_cSi (As := [.int (mem 6 x1.toNatClampNeg), .int (mem 7 (((512 : Int32) * x1) + x2).toNatClampNeg)]) (rest := [.int (mem 0 8)]) X w (kX9_later  l D ca ad mem (mem 6 x1.toNatClampNeg) (mem 7 (((512 : Int32) * x1) + x2).toNatClampNeg)  rfl) (gTS tw_1194 tw_1195 tw_75 tw_1196) hdX9_later (by decide) rfl hl.1 rfl (Nat.le_of_ble_eq_true rfl) dX9_laysPermitted_44 ⟨Nat.zero_le _, Nat.zero_le _⟩ (fun H locs w => ?_)
    refine r_cSi (As := [.int (mem 0 8), .int (fX9_later (mem 6 x1.toNatClampNeg) (mem 7 (((512 : Int32) * x1) + x2).toNatClampNeg))]) (rest := []) X w (kX9_later  l D ca ad mem (mem 0 8) (fX9_later (mem 6 x1.toNatClampNeg) (mem 7 (((512 : Int32) * x1) + x2).toNatClampNeg))  rfl) (gTS tw_1194 tw_1195 tw_75 tw_1196) hdX9_later (by decide) rfl hl.1 rfl (Nat.le_of_ble_eq_true rfl) dX9_laysPermitted_47 ⟨Nat.zero_le _, Nat.zero_le _⟩ (fun H locs w => ?_)
    obtain ⟨x_4, ex_4, h⟩ := lk_some h
    refine lv_name ex_4 ?_
    refine lv_istore_n (lv' := [(3, .int x_4), (0, .ref (ad 0)), (1, .int x1), (2, .int x2)]) X.1 X.2.1 dX9_laysPermitted_50 rfl hl (by decide) rfl (fun ls hl => ?_)
    refine lv_aload_n X.1 X.2.1 dX9_laysPermitted_51 rfl (lv_at hl 1 rfl) ?_
    refine lv_iload_n X.1 X.2.1 dX9_laysPermitted_52 rfl (lv_at hl 2 rfl) ?_
    refine lv_iload_n X.1 X.2.1 dX9_laysPermitted_53 rfl (lv_at hl 3 rfl) ?_
    refine lv_iload_n X.1 X.2.1 dX9_laysPermitted_54 rfl (lv_at hl 0 rfl) ?_
    refine lv_iconst (v := (0 : Int32)) X.1 X.2.1 dX9_laysPermitted_55 (by decide) ?_
    obtain ⟨m6, r5, hr5, h⟩ := bw_some h
    refine r_cVv (As := [.int x1, .int x2, .int x_4, .int (0 : Int32)]) (rest := []) X w lyM_0 rfl (kX9_laysWays  l D ca ad mem x1 x2 x_4 (0 : Int32)  hr5) (gTV tw_1197 tw_1199 tw_56 tw_75 tw_1200) hdX9_laysWays (by decide) rfl hl.1 rfl (Nat.le_of_ble_eq_true rfl) dX9_laysPermitted_56 ⟨Nat.zero_le _, Nat.zero_le _⟩ (fun H locs w => ?_)
    refine lv_iconst (v := (0 : Int32)) X.1 X.2.1 dX9_laysPermitted_59 (by decide) ?_
    refine lv_istore (lv' := [(4, .int (0 : Int32)), (3, .int x_4), (0, .ref (ad 0)), (1, .int x1), (2, .int x2)]) X.1 X.2.1 dX9_laysPermitted_60 hl (by decide) rfl (fun ls hl => ?_)
    exact wX9_laysPermitted_b62 X M _ _ _ _ H locs ls w (lv_sub hl [2, 4, 0] rfl) h
  · rw [if_neg c1] at h
    refine lv_aload_n X.1 X.2.1 dX9_laysPermitted_9 rfl (lv_at hl 0 rfl) ?_
    refine r_getr (b2 := 12) X w lyM_0 rfl inT9 24 rfl rfl (by decide) rfl tw_926 dX9_laysPermitted_10 ?_
    refine lv_iload_n X.1 X.2.1 dX9_laysPermitted_13 rfl (lv_at hl 3 rfl) ?_
    refine lv_iconst (v := (0 : Int32)) X.1 X.2.1 dX9_laysPermitted_14 (by decide) ?_
    obtain ⟨hi7, h⟩ := gd_some h
    refine r_zast X w lyM_12 (by decide) hi7 dX9_laysPermitted_15 (fun H locs w => ?_)
    obtain ⟨m8, em8, h⟩ := wk_some h
    rw [em8] at w
    refine lv_iinc (v := (x3 + (1 : Int32))) (lv' := [(3, .int (x3 + (1 : Int32))), (0, .ref (ad 0)), (1, .int x1), (2, .int x2)]) X.1 X.2.1 dX9_laysPermitted_16 hl (k := 3) rfl rfl (by decide) rfl (fun ls hl => ?_)
    refine lv_goto (tgt := 2) X.1 X.2.1 dX9_laysPermitted_19 (by decide) ?_
    exact hk2 _ _ _ _ H locs ls w (lv_sub hl [1, 2, 3, 0] rfl) h
set_option maxRecDepth 100000 in
set_option maxHeartbeats 4000000 in
theorem wX9_laysPermitted_b2 {p : Program} {l : Launch} {e : Env} {s : State} {m : MethodId} {args : Array Value} {below : List Frame} {meth : Method} {c : Code} {D : va_G} {ca : Nat → ClassId} {ad : Nat → Nat}  {mem' : Mm} {r : Unit} (X : CallFix p m c cX9_laysPermitted 5 s args TT RX9) (M : Mt meth none)  : ∀ (n : Nat) (mem : Mm) (x1 : Int32) (x2 : Int32) (x3 : Int32) (H : Heap) (locs : List Loc) (ls : Array Slot)  (_ : Wd D ca ad layM (AA ad layM.length) s.heap s mem H locs) (_ : lv_has ls 5 [(0, .ref (ad 0)), (1, .int x1), (2, .int x2), (3, .int x3)]) (_ : fX9_laysPermitted_b2  n mem x1 x2 x3 = some (mem', r)), W p l e (rmx 5 127) s m args below meth c H locs 0 0 (EndV D ca ad layM mem' below args s) (F0 m 2 ls []) := by
  intro n
  induction n with
  | zero => intro mem x1 x2 x3 H locs ls  w hl h; exact (nofun : (none : Option (Mm × Unit)) = _ → _) h
  | succ n ih => intro mem x1 x2 x3 H locs ls  w hl h; exact wX9_laysPermitted_b2_s X M  ih  w hl h
def fX9_laysPermitted (mem : Mm) (a1 : Int32) (a2 : Int32) : Option (Mm × Unit) :=
  fX9_laysPermitted_b2 2000 mem a1 a2 (0 : Int32)
set_option maxRecDepth 100000 in
set_option maxHeartbeats 4000000 in
theorem kX9_laysPermitted (l : Launch) (D : va_G) (ca : Nat → ClassId) (ad : Nat → Nat) (mem : Mm) (a1 : Int32) (a2 : Int32)  {mem' : Mm} {r : Unit} (h : fX9_laysPermitted mem a1 a2 = some (mem', r)) : CtV l yX9_laysPermitted cX9_laysPermitted 5 none (rmx 5 127) D ca ad layM mem [.ref (ad 0), .int a1, .int a2] mem' := by
  refine CtV.of (by decide) (Nat.le_of_ble_eq_true rfl) ?_
  intro p e s m args below meth c H locs ls X M w hl
  replace X : CallFix p m c cX9_laysPermitted 5 s args TT RX9 := X
  replace hl : lv_has ls 5 [(0, .ref (ad 0)), (1, .int a1), (2, .int a2)] := hl
  unfold fX9_laysPermitted at h
  refine lv_iconst (v := (0 : Int32)) X.1 X.2.1 dX9_laysPermitted_0 (by decide) ?_
  refine lv_istore_n (lv' := [(3, .int (0 : Int32)), (0, .ref (ad 0)), (1, .int a1), (2, .int a2)]) X.1 X.2.1 dX9_laysPermitted_1 rfl hl (by decide) rfl (fun ls hl => ?_)
  exact wX9_laysPermitted_b2 X M _ _ _ _ _ H locs ls w (lv_sub hl [1, 2, 3, 0] rfl) h
/-! WalkHouseModel.permitted(III)Z (W) -/
theorem hdX9_permitted : yX9_permitted.cls = RX9 ∧ yX9_permitted.cls ≠ "java/lang/invoke/MethodHandle" ∧ yX9_permitted.cls ≠ "java/lang/invoke/VarHandle" ∧ (parseMethodDescriptor yX9_permitted.desc).map (fun d => d.parameters.length) = some 3 := by decide +kernel
def fX9_permitted (mem : Mm) (a1 : Int32) (a2 : Int32) (a3 : Int32) : Option (Mm × Int32) :=
  wk mem 0 0 (0 : Int32) (fun m1 => if (fX9_isSpace a1) = 0 then some (m1, (0 : Int32)) else if (fX9_isAddress a2) = 0 then some (m1, (0 : Int32)) else if (fX9_within a3 (0 : Int32) (1099 : Int32)) = 0 then some (m1, (0 : Int32)) else bw (fX9_laysPermitted m1 a1 a2) (fun m6 r5 => gd a3 1100 (gz (m6 12 a3.toNatClampNeg) (some (m6, (m6 12 a3.toNatClampNeg))))))
set_option maxRecDepth 100000 in
set_option maxHeartbeats 4000000 in
theorem kX9_permitted (l : Launch) (D : va_G) (ca : Nat → ClassId) (ad : Nat → Nat) (mem : Mm) (a1 : Int32) (a2 : Int32) (a3 : Int32)  {mem' : Mm} {r : Int32} (h : fX9_permitted mem a1 a2 a3 = some (mem', r)) : CtI l yX9_permitted cX9_permitted 4 (some .boolean) (rmx 6 151) D ca ad layM mem [.ref (ad 0), .int a1, .int a2, .int a3] mem' r := by
  refine CtI.of (by decide) (Nat.le_of_ble_eq_true rfl) ?_
  intro p e s m args below meth c H locs ls X M w hl
  replace X : CallFix p m c cX9_permitted 4 s args TT RX9 := X
  replace hl : lv_has ls 4 [(0, .ref (ad 0)), (1, .int a1), (2, .int a2), (3, .int a3)] := hl
  unfold fX9_permitted at h
  refine lv_aload_n X.1 X.2.1 dX9_permitted_0 rfl (lv_at hl 0 rfl) ?_
  refine lv_iconst (v := (0 : Int32)) X.1 X.2.1 dX9_permitted_1 (by decide) ?_
  refine r_put X w lyM_0 rfl inT9 tyX9 tyX9_ok nmX9 0 rfl (by decide) rfl rfl tw_902 rfl rfl dX9_permitted_2 (fun H locs w => ?_)
  obtain ⟨m1, em1, h⟩ := wk_some h
  rw [em1] at w
  refine lv_iload_n X.1 X.2.1 dX9_permitted_5 rfl (lv_at hl 1 rfl) ?_
  refine r_cSi (As := [.int a1]) (rest := []) X w (kX9_isSpace  l D ca ad m1 a1  rfl) (gTS tw_1004 tw_1005 tw_75 tw_1006) hdX9_isSpace (by decide) rfl hl.1 rfl (Nat.le_of_ble_eq_true rfl) dX9_permitted_6 ⟨Nat.zero_le _, Nat.zero_le _⟩ (fun H locs w => ?_)
  refine lv_if_eq (tgt := 30) X.1 X.2.1 dX9_permitted_9 (by decide) (fun c2 => ?_) (fun c2 => ?_)
  · rw [if_pos c2] at h
    refine lv_iconst (v := (0 : Int32)) X.1 X.2.1 dX9_permitted_30 (by decide) ?_
    obtain ⟨rfl, rfl⟩ := Prod.mk.inj (Option.some.inj h)
    exact r_zret X M w (by decide) dX9_permitted_31
  · rw [if_neg c2] at h
    refine lv_iload_n X.1 X.2.1 dX9_permitted_12 rfl (lv_at hl 2 rfl) ?_
    refine r_cSi (As := [.int a2]) (rest := []) X w (kX9_isAddress  l D ca ad m1 a2  rfl) (gTS tw_1043 tw_1044 tw_75 tw_1045) hdX9_isAddress (by decide) rfl hl.1 rfl (Nat.le_of_ble_eq_true rfl) dX9_permitted_13 ⟨Nat.zero_le _, Nat.zero_le _⟩ (fun H locs w => ?_)
    refine lv_if_eq (tgt := 30) X.1 X.2.1 dX9_permitted_16 (by decide) (fun c3 => ?_) (fun c3 => ?_)
    · rw [if_pos c3] at h
      refine lv_iconst (v := (0 : Int32)) X.1 X.2.1 dX9_permitted_30 (by decide) ?_
      obtain ⟨rfl, rfl⟩ := Prod.mk.inj (Option.some.inj h)
      exact r_zret X M w (by decide) dX9_permitted_31
    · rw [if_neg c3] at h
      refine lv_iload_n X.1 X.2.1 dX9_permitted_19 rfl (lv_at hl 3 rfl) ?_
      refine lv_iconst (v := (0 : Int32)) X.1 X.2.1 dX9_permitted_20 (by decide) ?_
      refine lv_sipush (v := (1099 : Int32)) X.1 X.2.1 dX9_permitted_21 (by decide) ?_
      refine r_cSi (As := [.int a3, .int (0 : Int32), .int (1099 : Int32)]) (rest := []) X w (kX9_within  l D ca ad m1 a3 (0 : Int32) (1099 : Int32)  rfl) (gTS tw_983 tw_984 tw_75 tw_985) hdX9_within (by decide) rfl hl.1 rfl (Nat.le_of_ble_eq_true rfl) dX9_permitted_24 ⟨Nat.zero_le _, Nat.zero_le _⟩ (fun H locs w => ?_)
      refine lv_if_ne (tgt := 32) X.1 X.2.1 dX9_permitted_27 (by decide) (fun c4 => ?_) (fun c4 => ?_)
      · rw [if_neg c4] at h
        refine lv_aload_n X.1 X.2.1 dX9_permitted_32 rfl (lv_at hl 0 rfl) ?_
        refine lv_iload_n X.1 X.2.1 dX9_permitted_33 rfl (lv_at hl 1 rfl) ?_
        refine lv_iload_n X.1 X.2.1 dX9_permitted_34 rfl (lv_at hl 2 rfl) ?_
        obtain ⟨m6, r5, hr5, h⟩ := bw_some h
        refine r_cVv (As := [.int a1, .int a2]) (rest := []) X w lyM_0 rfl (kX9_laysPermitted  l D ca ad m1 a1 a2  hr5) (gTV tw_1190 tw_1192 tw_55 tw_75 tw_1193) hdX9_laysPermitted (by decide) rfl hl.1 rfl (Nat.le_of_ble_eq_true rfl) dX9_permitted_35 ⟨Nat.zero_le _, Nat.zero_le _⟩ (fun H locs w => ?_)
        refine lv_aload_n X.1 X.2.1 dX9_permitted_38 rfl (lv_at hl 0 rfl) ?_
        refine r_getr (b2 := 12) X w lyM_0 rfl inT9 24 rfl rfl (by decide) rfl tw_926 dX9_permitted_39 ?_
        refine lv_iload_n X.1 X.2.1 dX9_permitted_42 rfl (lv_at hl 3 rfl) ?_
        obtain ⟨hi7, h⟩ := gd_some h
        refine r_zald X w lyM_12 hi7 dX9_permitted_43 ?_
        obtain ⟨hz, h⟩ := gz_some h
        obtain ⟨rfl, rfl⟩ := Prod.mk.inj (Option.some.inj h)
        exact r_zret X M w hz dX9_permitted_44
      · rw [if_pos c4] at h
        refine lv_iconst (v := (0 : Int32)) X.1 X.2.1 dX9_permitted_30 (by decide) ?_
        obtain ⟨rfl, rfl⟩ := Prod.mk.inj (Option.some.inj h)
        exact r_zret X M w (by decide) dX9_permitted_31
/-! WalkHouseModel.many(II)I (W) -/
theorem hdX9_many : yX9_many.cls = RX9 ∧ yX9_many.cls ≠ "java/lang/invoke/MethodHandle" ∧ yX9_many.cls ≠ "java/lang/invoke/VarHandle" ∧ (parseMethodDescriptor yX9_many.desc).map (fun d => d.parameters.length) = some 2 := by decide +kernel
def fX9_many_b32_s  (k32 : Mm → Int32 → Int32 → Option (Mm × Int32)) (mem : Mm) (x3 : Int32) (x4 : Int32) : Option (Mm × Int32) :=
  if (1100 : Int32) ≤ x4 then some (mem, x3) else gd x4 1100 (if (mem 12 x4.toNatClampNeg) = 0 then lk (x3 + (0 : Int32)) (fun x_4 => k32 mem x_4 (x4 + (1 : Int32))) else lk (x3 + (1 : Int32)) (fun x_5 => k32 mem x_5 (x4 + (1 : Int32))))
def fX9_many_b32  : Nat → Mm → Int32 → Int32 → Option (Mm × Int32)
  | 0 => fun _ _ _ => none
  | n + 1 => fX9_many_b32_s  (fX9_many_b32  n)
set_option maxRecDepth 100000 in
set_option maxHeartbeats 4000000 in
theorem wX9_many_b32_s {p : Program} {l : Launch} {e : Env} {s : State} {m : MethodId} {args : Array Value} {below : List Frame} {meth : Method} {c : Code} {D : va_G} {ca : Nat → ClassId} {ad : Nat → Nat} {H : Heap} {locs : List Loc} {ls : Array Slot} {mem : Mm} {x3 : Int32} {x4 : Int32}  {k32 : Mm → Int32 → Int32 → Option (Mm × Int32)} {mem' : Mm} {r : Int32} (X : CallFix p m c cX9_many 5 s args TT RX9) (M : Mt meth (some .int))  (hk32 : ∀ (mem : Mm) (x3 : Int32) (x4 : Int32) (H : Heap) (locs : List Loc) (ls : Array Slot) , Wd D ca ad layM (AA ad layM.length) s.heap s mem H locs → lv_has ls 5 [(0, .ref (ad 0)), (3, .int x3), (4, .int x4)] → k32 mem x3 x4 = some (mem', r) → W p l e (rmx 6 151) s m args below meth c H locs 0 0 (EndI D ca ad layM mem' r below args s) (F0 m 32 ls []))  (w : Wd D ca ad layM (AA ad layM.length) s.heap s mem H locs) (hl : lv_has ls 5 [(0, .ref (ad 0)), (3, .int x3), (4, .int x4)]) (h : fX9_many_b32_s  k32 mem x3 x4 = some (mem', r)) : W p l e (rmx 6 151) s m args below meth c H locs 0 0 (EndI D ca ad layM mem' r below args s) (F0 m 32 ls []) := by
  unfold fX9_many_b32_s at h
  refine lv_iload X.1 X.2.1 dX9_many_32 (lv_at hl 2 rfl) ?_
  refine lv_sipush (v := (1100 : Int32)) X.1 X.2.1 dX9_many_34 (by decide) ?_
  refine lv_icmp_ge (tgt := 64) X.1 X.2.1 dX9_many_37 (by decide) (fun c1 => ?_) (fun c1 => ?_)
  · rw [if_pos c1] at h
    refine lv_iload_n X.1 X.2.1 dX9_many_64 rfl (lv_at hl 1 rfl) ?_
    obtain ⟨rfl, rfl⟩ := Prod.mk.inj (Option.some.inj h)
    exact r_iret X M w dX9_many_65
  · rw [if_neg c1] at h
    refine lv_iload_n X.1 X.2.1 dX9_many_40 rfl (lv_at hl 1 rfl) ?_
    refine lv_aload_n X.1 X.2.1 dX9_many_41 rfl (lv_at hl 0 rfl) ?_
    refine r_getr (b2 := 12) X w lyM_0 rfl inT9 24 rfl rfl (by decide) rfl tw_926 dX9_many_42 ?_
    refine lv_iload X.1 X.2.1 dX9_many_45 (lv_at hl 2 rfl) ?_
    obtain ⟨hi2, h⟩ := gd_some h
    refine r_zald X w lyM_12 hi2 dX9_many_47 ?_
    refine lv_if_eq (tgt := 55) X.1 X.2.1 dX9_many_48 (by decide) (fun c3 => ?_) (fun c3 => ?_)
    · rw [if_pos c3] at h
      refine lv_iconst (v := (0 : Int32)) X.1 X.2.1 dX9_many_55 (by decide) ?_
      refine lv_iadd X.1 X.2.1 dX9_many_56 ?_
      obtain ⟨x_4, ex_4, h⟩ := lk_some h
      refine lv_name ex_4 ?_
      refine lv_istore_n (lv' := [(3, .int x_4), (0, .ref (ad 0)), (4, .int x4)]) X.1 X.2.1 dX9_many_57 rfl hl (by decide) rfl (fun ls hl => ?_)
      refine lv_iinc (v := (x4 + (1 : Int32))) (lv' := [(4, .int (x4 + (1 : Int32))), (3, .int x_4), (0, .ref (ad 0))]) X.1 X.2.1 dX9_many_58 hl (k := 2) rfl rfl (by decide) rfl (fun ls hl => ?_)
      refine lv_goto (tgt := 32) X.1 X.2.1 dX9_many_61 (by decide) ?_
      exact hk32 _ _ _ H locs ls w (lv_sub hl [2, 1, 0] rfl) h
    · rw [if_neg c3] at h
      refine lv_iconst (v := (1 : Int32)) X.1 X.2.1 dX9_many_51 (by decide) ?_
      refine lv_goto (tgt := 56) X.1 X.2.1 dX9_many_52 (by decide) ?_
      refine lv_iadd X.1 X.2.1 dX9_many_56 ?_
      obtain ⟨x_5, ex_5, h⟩ := lk_some h
      refine lv_name ex_5 ?_
      refine lv_istore_n (lv' := [(3, .int x_5), (0, .ref (ad 0)), (4, .int x4)]) X.1 X.2.1 dX9_many_57 rfl hl (by decide) rfl (fun ls hl => ?_)
      refine lv_iinc (v := (x4 + (1 : Int32))) (lv' := [(4, .int (x4 + (1 : Int32))), (3, .int x_5), (0, .ref (ad 0))]) X.1 X.2.1 dX9_many_58 hl (k := 2) rfl rfl (by decide) rfl (fun ls hl => ?_)
      refine lv_goto (tgt := 32) X.1 X.2.1 dX9_many_61 (by decide) ?_
      exact hk32 _ _ _ H locs ls w (lv_sub hl [2, 1, 0] rfl) h
set_option maxRecDepth 100000 in
set_option maxHeartbeats 4000000 in
theorem wX9_many_b32 {p : Program} {l : Launch} {e : Env} {s : State} {m : MethodId} {args : Array Value} {below : List Frame} {meth : Method} {c : Code} {D : va_G} {ca : Nat → ClassId} {ad : Nat → Nat}  {mem' : Mm} {r : Int32} (X : CallFix p m c cX9_many 5 s args TT RX9) (M : Mt meth (some .int))  : ∀ (n : Nat) (mem : Mm) (x3 : Int32) (x4 : Int32) (H : Heap) (locs : List Loc) (ls : Array Slot)  (_ : Wd D ca ad layM (AA ad layM.length) s.heap s mem H locs) (_ : lv_has ls 5 [(0, .ref (ad 0)), (3, .int x3), (4, .int x4)]) (_ : fX9_many_b32  n mem x3 x4 = some (mem', r)), W p l e (rmx 6 151) s m args below meth c H locs 0 0 (EndI D ca ad layM mem' r below args s) (F0 m 32 ls []) := by
  intro n
  induction n with
  | zero => intro mem x3 x4 H locs ls  w hl h; exact (nofun : (none : Option (Mm × Int32)) = _ → _) h
  | succ n ih => intro mem x3 x4 H locs ls  w hl h; exact wX9_many_b32_s X M  ih  w hl h
def fX9_many (mem : Mm) (a1 : Int32) (a2 : Int32) : Option (Mm × Int32) :=
  wk mem 0 0 (0 : Int32) (fun m1 => if (fX9_isSpace a1) = 0 then some (m1, (-1 : Int32)) else if (fX9_isAddress a2) = 0 then some (m1, (-1 : Int32)) else bw (fX9_laysPermitted m1 a1 a2) (fun m5 r4 => fX9_many_b32 2000 m5 (0 : Int32) (0 : Int32)))
set_option maxRecDepth 100000 in
set_option maxHeartbeats 4000000 in
theorem kX9_many (l : Launch) (D : va_G) (ca : Nat → ClassId) (ad : Nat → Nat) (mem : Mm) (a1 : Int32) (a2 : Int32)  {mem' : Mm} {r : Int32} (h : fX9_many mem a1 a2 = some (mem', r)) : CtI l yX9_many cX9_many 5 (some .int) (rmx 6 151) D ca ad layM mem [.ref (ad 0), .int a1, .int a2] mem' r := by
  refine CtI.of (by decide) (Nat.le_of_ble_eq_true rfl) ?_
  intro p e s m args below meth c H locs ls X M w hl
  replace X : CallFix p m c cX9_many 5 s args TT RX9 := X
  replace hl : lv_has ls 5 [(0, .ref (ad 0)), (1, .int a1), (2, .int a2)] := hl
  unfold fX9_many at h
  refine lv_aload_n X.1 X.2.1 dX9_many_0 rfl (lv_at hl 0 rfl) ?_
  refine lv_iconst (v := (0 : Int32)) X.1 X.2.1 dX9_many_1 (by decide) ?_
  refine r_put X w lyM_0 rfl inT9 tyX9 tyX9_ok nmX9 0 rfl (by decide) rfl rfl tw_902 rfl rfl dX9_many_2 (fun H locs w => ?_)
  obtain ⟨m1, em1, h⟩ := wk_some h
  rw [em1] at w
  refine lv_iload_n X.1 X.2.1 dX9_many_5 rfl (lv_at hl 1 rfl) ?_
  refine r_cSi (As := [.int a1]) (rest := []) X w (kX9_isSpace  l D ca ad m1 a1  rfl) (gTS tw_1004 tw_1005 tw_75 tw_1006) hdX9_isSpace (by decide) rfl hl.1 rfl (Nat.le_of_ble_eq_true rfl) dX9_many_6 ⟨Nat.zero_le _, Nat.zero_le _⟩ (fun H locs w => ?_)
  refine lv_if_eq (tgt := 19) X.1 X.2.1 dX9_many_9 (by decide) (fun c2 => ?_) (fun c2 => ?_)
  · rw [if_pos c2] at h
    refine lv_iconst (v := (-1 : Int32)) X.1 X.2.1 dX9_many_19 (by decide) ?_
    obtain ⟨rfl, rfl⟩ := Prod.mk.inj (Option.some.inj h)
    exact r_iret X M w dX9_many_20
  · rw [if_neg c2] at h
    refine lv_iload_n X.1 X.2.1 dX9_many_12 rfl (lv_at hl 2 rfl) ?_
    refine r_cSi (As := [.int a2]) (rest := []) X w (kX9_isAddress  l D ca ad m1 a2  rfl) (gTS tw_1043 tw_1044 tw_75 tw_1045) hdX9_isAddress (by decide) rfl hl.1 rfl (Nat.le_of_ble_eq_true rfl) dX9_many_13 ⟨Nat.zero_le _, Nat.zero_le _⟩ (fun H locs w => ?_)
    refine lv_if_ne (tgt := 21) X.1 X.2.1 dX9_many_16 (by decide) (fun c3 => ?_) (fun c3 => ?_)
    · rw [if_neg c3] at h
      refine lv_aload_n X.1 X.2.1 dX9_many_21 rfl (lv_at hl 0 rfl) ?_
      refine lv_iload_n X.1 X.2.1 dX9_many_22 rfl (lv_at hl 1 rfl) ?_
      refine lv_iload_n X.1 X.2.1 dX9_many_23 rfl (lv_at hl 2 rfl) ?_
      obtain ⟨m5, r4, hr4, h⟩ := bw_some h
      refine r_cVv (As := [.int a1, .int a2]) (rest := []) X w lyM_0 rfl (kX9_laysPermitted  l D ca ad m1 a1 a2  hr4) (gTV tw_1190 tw_1192 tw_55 tw_75 tw_1193) hdX9_laysPermitted (by decide) rfl hl.1 rfl (Nat.le_of_ble_eq_true rfl) dX9_many_24 ⟨Nat.zero_le _, Nat.zero_le _⟩ (fun H locs w => ?_)
      refine lv_iconst (v := (0 : Int32)) X.1 X.2.1 dX9_many_27 (by decide) ?_
      refine lv_istore_n (lv' := [(3, .int (0 : Int32)), (0, .ref (ad 0)), (1, .int a1), (2, .int a2)]) X.1 X.2.1 dX9_many_28 rfl hl (by decide) rfl (fun ls hl => ?_)
      refine lv_iconst (v := (0 : Int32)) X.1 X.2.1 dX9_many_29 (by decide) ?_
      refine lv_istore (lv' := [(4, .int (0 : Int32)), (3, .int (0 : Int32)), (0, .ref (ad 0)), (1, .int a1), (2, .int a2)]) X.1 X.2.1 dX9_many_30 hl (by decide) rfl (fun ls hl => ?_)
      exact wX9_many_b32 X M _ _ _ _ H locs ls w (lv_sub hl [2, 1, 0] rfl) h
    · rw [if_pos c3] at h
      refine lv_iconst (v := (-1 : Int32)) X.1 X.2.1 dX9_many_19 (by decide) ?_
      obtain ⟨rfl, rfl⟩ := Prod.mk.inj (Option.some.inj h)
      exact r_iret X M w dX9_many_20
/-! WalkHouseModel.reverse(III)I (W) -/
theorem hdX9_reverse : yX9_reverse.cls = RX9 ∧ yX9_reverse.cls ≠ "java/lang/invoke/MethodHandle" ∧ yX9_reverse.cls ≠ "java/lang/invoke/VarHandle" ∧ (parseMethodDescriptor yX9_reverse.desc).map (fun d => d.parameters.length) = some 3 := by decide +kernel
def fX9_reverse_b25_s  (k25 : Mm → Int32 → Int32 → Int32 → Int32 → Int32 → Option (Mm × Int32)) (mem : Mm) (x1 : Int32) (x2 : Int32) (x3 : Int32) (x4 : Int32) (x5 : Int32) : Option (Mm × Int32) :=
  if (512 : Int32) ≤ x5 then if x3 = (-1 : Int32) then some (mem, x4) else some (mem, (-1 : Int32)) else bw (fX9_frameNow mem x1 x5) (fun m4 r3 => if r3 < 0 then k25 m4 x1 x2 x3 x4 (x5 + (1 : Int32)) else if r3 = x2 then if x4 = x3 then some (m4, x5) else k25 m4 x1 x2 x3 (x4 + (1 : Int32)) (x5 + (1 : Int32)) else k25 m4 x1 x2 x3 x4 (x5 + (1 : Int32)))
def fX9_reverse_b25  : Nat → Mm → Int32 → Int32 → Int32 → Int32 → Int32 → Option (Mm × Int32)
  | 0 => fun _ _ _ _ _ _ => none
  | n + 1 => fX9_reverse_b25_s  (fX9_reverse_b25  n)
set_option maxRecDepth 100000 in
set_option maxHeartbeats 4000000 in
theorem wX9_reverse_b25_s {p : Program} {l : Launch} {e : Env} {s : State} {m : MethodId} {args : Array Value} {below : List Frame} {meth : Method} {c : Code} {D : va_G} {ca : Nat → ClassId} {ad : Nat → Nat} {H : Heap} {locs : List Loc} {ls : Array Slot} {mem : Mm} {x1 : Int32} {x2 : Int32} {x3 : Int32} {x4 : Int32} {x5 : Int32}  {k25 : Mm → Int32 → Int32 → Int32 → Int32 → Int32 → Option (Mm × Int32)} {mem' : Mm} {r : Int32} (X : CallFix p m c cX9_reverse 7 s args TT RX9) (M : Mt meth (some .int))  (hk25 : ∀ (mem : Mm) (x1 : Int32) (x2 : Int32) (x3 : Int32) (x4 : Int32) (x5 : Int32) (H : Heap) (locs : List Loc) (ls : Array Slot) , Wd D ca ad layM (AA ad layM.length) s.heap s mem H locs → lv_has ls 7 [(0, .ref (ad 0)), (1, .int x1), (2, .int x2), (3, .int x3), (4, .int x4), (5, .int x5)] → k25 mem x1 x2 x3 x4 x5 = some (mem', r) → W p l e (rmx 4 91) s m args below meth c H locs 0 0 (EndI D ca ad layM mem' r below args s) (F0 m 25 ls []))  (w : Wd D ca ad layM (AA ad layM.length) s.heap s mem H locs) (hl : lv_has ls 7 [(0, .ref (ad 0)), (1, .int x1), (2, .int x2), (3, .int x3), (4, .int x4), (5, .int x5)]) (h : fX9_reverse_b25_s  k25 mem x1 x2 x3 x4 x5 = some (mem', r)) : W p l e (rmx 4 91) s m args below meth c H locs 0 0 (EndI D ca ad layM mem' r below args s) (F0 m 25 ls []) := by
  unfold fX9_reverse_b25_s at h
  refine lv_iload X.1 X.2.1 dX9_reverse_25 (lv_at hl 5 rfl) ?_
  refine lv_sipush (v := (512 : Int32)) X.1 X.2.1 dX9_reverse_27 (by decide) ?_
  refine lv_icmp_ge (tgt := 71) X.1 X.2.1 dX9_reverse_30 (by decide) (fun c1 => ?_) (fun c1 => ?_)
  · rw [if_pos c1] at h
    refine lv_iload_n X.1 X.2.1 dX9_reverse_71 rfl (lv_at hl 3 rfl) ?_
    refine lv_iconst (v := (-1 : Int32)) X.1 X.2.1 dX9_reverse_72 (by decide) ?_
    refine lv_icmp_ne (tgt := 81) X.1 X.2.1 dX9_reverse_73 (by decide) (fun c2 => ?_) (fun c2 => ?_)
    · rw [if_neg c2] at h
      refine lv_iconst (v := (-1 : Int32)) X.1 X.2.1 dX9_reverse_81 (by decide) ?_
      obtain ⟨rfl, rfl⟩ := Prod.mk.inj (Option.some.inj h)
      exact r_iret X M w dX9_reverse_82
    · rw [if_pos c2] at h
      refine lv_iload X.1 X.2.1 dX9_reverse_76 (lv_at hl 4 rfl) ?_
      refine lv_goto (tgt := 82) X.1 X.2.1 dX9_reverse_78 (by decide) ?_
      obtain ⟨rfl, rfl⟩ := Prod.mk.inj (Option.some.inj h)
      exact r_iret X M w dX9_reverse_82
  · rw [if_neg c1] at h
    refine lv_aload_n X.1 X.2.1 dX9_reverse_33 rfl (lv_at hl 0 rfl) ?_
    refine lv_iload_n X.1 X.2.1 dX9_reverse_34 rfl (lv_at hl 1 rfl) ?_
    refine lv_iload X.1 X.2.1 dX9_reverse_35 (lv_at hl 5 rfl) ?_
    obtain ⟨m4, r3, hr3, h⟩ := bw_some h
    refine r_cVi (As := [.int x1, .int x5]) (rest := []) X w lyM_0 rfl (kX9_frameNow  l D ca ad mem x1 x5  hr3) (gTV tw_1150 tw_1152 tw_49 tw_75 tw_1153) hdX9_frameNow (by decide) rfl hl.1 rfl (Nat.le_of_ble_eq_true rfl) dX9_reverse_37 ⟨Nat.zero_le _, Nat.zero_le _⟩ (fun H locs w => ?_)
    refine lv_istore (lv' := [(6, .int r3), (0, .ref (ad 0)), (1, .int x1), (2, .int x2), (3, .int x3), (4, .int x4), (5, .int x5)]) X.1 X.2.1 dX9_reverse_40 hl (by decide) rfl (fun ls hl => ?_)
    refine lv_iload X.1 X.2.1 dX9_reverse_42 (lv_at hl 0 rfl) ?_
    refine lv_if_lt (tgt := 65) X.1 X.2.1 dX9_reverse_44 (by decide) (fun c5 => ?_) (fun c5 => ?_)
    · rw [if_pos c5] at h
      refine lv_iinc (v := (x5 + (1 : Int32))) (lv' := [(5, .int (x5 + (1 : Int32))), (6, .int r3), (0, .ref (ad 0)), (1, .int x1), (2, .int x2), (3, .int x3), (4, .int x4)]) X.1 X.2.1 dX9_reverse_65 hl (k := 6) rfl rfl (by decide) rfl (fun ls hl => ?_)
      refine lv_goto (tgt := 25) X.1 X.2.1 dX9_reverse_68 (by decide) ?_
      exact hk25 _ _ _ _ _ _ H locs ls w (lv_sub hl [2, 3, 4, 5, 6, 0] rfl) h
    · rw [if_neg c5] at h
      refine lv_iload X.1 X.2.1 dX9_reverse_47 (lv_at hl 0 rfl) ?_
      refine lv_iload_n X.1 X.2.1 dX9_reverse_49 rfl (lv_at hl 3 rfl) ?_
      refine lv_icmp_ne (tgt := 65) X.1 X.2.1 dX9_reverse_50 (by decide) (fun c6 => ?_) (fun c6 => ?_)
      · rw [if_neg c6] at h
        refine lv_iinc (v := (x5 + (1 : Int32))) (lv' := [(5, .int (x5 + (1 : Int32))), (6, .int r3), (0, .ref (ad 0)), (1, .int x1), (2, .int x2), (3, .int x3), (4, .int x4)]) X.1 X.2.1 dX9_reverse_65 hl (k := 6) rfl rfl (by decide) rfl (fun ls hl => ?_)
        refine lv_goto (tgt := 25) X.1 X.2.1 dX9_reverse_68 (by decide) ?_
        exact hk25 _ _ _ _ _ _ H locs ls w (lv_sub hl [2, 3, 4, 5, 6, 0] rfl) h
      · rw [if_pos c6] at h
        refine lv_iload X.1 X.2.1 dX9_reverse_53 (lv_at hl 5 rfl) ?_
        refine lv_iload_n X.1 X.2.1 dX9_reverse_55 rfl (lv_at hl 4 rfl) ?_
        refine lv_icmp_ne (tgt := 62) X.1 X.2.1 dX9_reverse_56 (by decide) (fun c7 => ?_) (fun c7 => ?_)
        · rw [if_neg c7] at h
          refine lv_iinc (v := (x4 + (1 : Int32))) (lv' := [(4, .int (x4 + (1 : Int32))), (6, .int r3), (0, .ref (ad 0)), (1, .int x1), (2, .int x2), (3, .int x3), (5, .int x5)]) X.1 X.2.1 dX9_reverse_62 hl (k := 5) rfl rfl (by decide) rfl (fun ls hl => ?_)
          refine lv_iinc (v := (x5 + (1 : Int32))) (lv' := [(5, .int (x5 + (1 : Int32))), (4, .int (x4 + (1 : Int32))), (6, .int r3), (0, .ref (ad 0)), (1, .int x1), (2, .int x2), (3, .int x3)]) X.1 X.2.1 dX9_reverse_65 hl (k := 6) rfl rfl (by decide) rfl (fun ls hl => ?_)
          refine lv_goto (tgt := 25) X.1 X.2.1 dX9_reverse_68 (by decide) ?_
          exact hk25 _ _ _ _ _ _ H locs ls w (lv_sub hl [3, 4, 5, 6, 1, 0] rfl) h
        · rw [if_pos c7] at h
          refine lv_iload X.1 X.2.1 dX9_reverse_59 (lv_at hl 6 rfl) ?_
          obtain ⟨rfl, rfl⟩ := Prod.mk.inj (Option.some.inj h)
          exact r_iret X M w dX9_reverse_61
set_option maxRecDepth 100000 in
set_option maxHeartbeats 4000000 in
theorem wX9_reverse_b25 {p : Program} {l : Launch} {e : Env} {s : State} {m : MethodId} {args : Array Value} {below : List Frame} {meth : Method} {c : Code} {D : va_G} {ca : Nat → ClassId} {ad : Nat → Nat}  {mem' : Mm} {r : Int32} (X : CallFix p m c cX9_reverse 7 s args TT RX9) (M : Mt meth (some .int))  : ∀ (n : Nat) (mem : Mm) (x1 : Int32) (x2 : Int32) (x3 : Int32) (x4 : Int32) (x5 : Int32) (H : Heap) (locs : List Loc) (ls : Array Slot)  (_ : Wd D ca ad layM (AA ad layM.length) s.heap s mem H locs) (_ : lv_has ls 7 [(0, .ref (ad 0)), (1, .int x1), (2, .int x2), (3, .int x3), (4, .int x4), (5, .int x5)]) (_ : fX9_reverse_b25  n mem x1 x2 x3 x4 x5 = some (mem', r)), W p l e (rmx 4 91) s m args below meth c H locs 0 0 (EndI D ca ad layM mem' r below args s) (F0 m 25 ls []) := by
  intro n
  induction n with
  | zero => intro mem x1 x2 x3 x4 x5 H locs ls  w hl h; exact (nofun : (none : Option (Mm × Int32)) = _ → _) h
  | succ n ih => intro mem x1 x2 x3 x4 x5 H locs ls  w hl h; exact wX9_reverse_b25_s X M  ih  w hl h
def fX9_reverse (mem : Mm) (a1 : Int32) (a2 : Int32) (a3 : Int32) : Option (Mm × Int32) :=
  wk mem 0 0 (0 : Int32) (fun m1 => if (fX9_isSpace a1) = 0 then some (m1, (-1 : Int32)) else if (-1 : Int32) ≤ a3 then fX9_reverse_b25 2000 m1 a1 a2 a3 (0 : Int32) (0 : Int32) else some (m1, (-1 : Int32)))
set_option maxRecDepth 100000 in
set_option maxHeartbeats 4000000 in
theorem kX9_reverse (l : Launch) (D : va_G) (ca : Nat → ClassId) (ad : Nat → Nat) (mem : Mm) (a1 : Int32) (a2 : Int32) (a3 : Int32)  {mem' : Mm} {r : Int32} (h : fX9_reverse mem a1 a2 a3 = some (mem', r)) : CtI l yX9_reverse cX9_reverse 7 (some .int) (rmx 4 91) D ca ad layM mem [.ref (ad 0), .int a1, .int a2, .int a3] mem' r := by
  refine CtI.of (by decide) (Nat.le_of_ble_eq_true rfl) ?_
  intro p e s m args below meth c H locs ls X M w hl
  replace X : CallFix p m c cX9_reverse 7 s args TT RX9 := X
  replace hl : lv_has ls 7 [(0, .ref (ad 0)), (1, .int a1), (2, .int a2), (3, .int a3)] := hl
  unfold fX9_reverse at h
  refine lv_aload_n X.1 X.2.1 dX9_reverse_0 rfl (lv_at hl 0 rfl) ?_
  refine lv_iconst (v := (0 : Int32)) X.1 X.2.1 dX9_reverse_1 (by decide) ?_
  refine r_put X w lyM_0 rfl inT9 tyX9 tyX9_ok nmX9 0 rfl (by decide) rfl rfl tw_902 rfl rfl dX9_reverse_2 (fun H locs w => ?_)
  obtain ⟨m1, em1, h⟩ := wk_some h
  rw [em1] at w
  refine lv_iload_n X.1 X.2.1 dX9_reverse_5 rfl (lv_at hl 1 rfl) ?_
  refine r_cSi (As := [.int a1]) (rest := []) X w (kX9_isSpace  l D ca ad m1 a1  rfl) (gTS tw_1004 tw_1005 tw_75 tw_1006) hdX9_isSpace (by decide) rfl hl.1 rfl (Nat.le_of_ble_eq_true rfl) dX9_reverse_6 ⟨Nat.zero_le _, Nat.zero_le _⟩ (fun H locs w => ?_)
  refine lv_if_eq (tgt := 17) X.1 X.2.1 dX9_reverse_9 (by decide) (fun c2 => ?_) (fun c2 => ?_)
  · rw [if_pos c2] at h
    refine lv_iconst (v := (-1 : Int32)) X.1 X.2.1 dX9_reverse_17 (by decide) ?_
    obtain ⟨rfl, rfl⟩ := Prod.mk.inj (Option.some.inj h)
    exact r_iret X M w dX9_reverse_18
  · rw [if_neg c2] at h
    refine lv_iload_n X.1 X.2.1 dX9_reverse_12 rfl (lv_at hl 3 rfl) ?_
    refine lv_iconst (v := (-1 : Int32)) X.1 X.2.1 dX9_reverse_13 (by decide) ?_
    refine lv_icmp_ge (tgt := 19) X.1 X.2.1 dX9_reverse_14 (by decide) (fun c3 => ?_) (fun c3 => ?_)
    · rw [if_pos c3] at h
      refine lv_iconst (v := (0 : Int32)) X.1 X.2.1 dX9_reverse_19 (by decide) ?_
      refine lv_istore (lv' := [(4, .int (0 : Int32)), (0, .ref (ad 0)), (1, .int a1), (2, .int a2), (3, .int a3)]) X.1 X.2.1 dX9_reverse_20 hl (by decide) rfl (fun ls hl => ?_)
      refine lv_iconst (v := (0 : Int32)) X.1 X.2.1 dX9_reverse_22 (by decide) ?_
      refine lv_istore (lv' := [(5, .int (0 : Int32)), (4, .int (0 : Int32)), (0, .ref (ad 0)), (1, .int a1), (2, .int a2), (3, .int a3)]) X.1 X.2.1 dX9_reverse_23 hl (by decide) rfl (fun ls hl => ?_)
      exact wX9_reverse_b25 X M _ _ _ _ _ _ _ H locs ls w (lv_sub hl [2, 3, 4, 5, 1, 0] rfl) h
    · rw [if_neg c3] at h
      refine lv_iconst (v := (-1 : Int32)) X.1 X.2.1 dX9_reverse_17 (by decide) ?_
      obtain ⟨rfl, rfl⟩ := Prod.mk.inj (Option.some.inj h)
      exact r_iret X M w dX9_reverse_18
/-! WalkHouseModel.passes(III)Z (R) -/
theorem hdX9_passes : yX9_passes.cls = RX9 ∧ yX9_passes.cls ≠ "java/lang/invoke/MethodHandle" ∧ yX9_passes.cls ≠ "java/lang/invoke/VarHandle" ∧ (parseMethodDescriptor yX9_passes.desc).map (fun d => d.parameters.length) = some 3 := by decide +kernel
def fX9_passes_b54 (k18 : Mm → Int32 → Int32 → Int32 → Int32 → Int32 → Option Int32) (mem : Mm) (x2 : Int32) (x3 : Int32) (x6 : Int32) (x7 : Int32) (s0 : Int32) : Option Int32 :=
  gd ((0 : Int32) + x7) 345 (if (fX9_whatOf (mem 1 ((0 : Int32) + x7).toNatClampNeg)) = (1 : Int32) then gd ((0 : Int32) + x7) 345 (lk (fX9_targetOf (mem 1 ((0 : Int32) + x7).toNatClampNeg)) (fun x_4 => k18 mem x2 x3 s0 x_4 (x6 + (-1 : Int32)))) else k18 mem x2 x3 s0 (-1 : Int32) (x6 + (-1 : Int32)))
set_option maxRecDepth 100000 in
set_option maxHeartbeats 4000000 in
theorem wX9_passes_b54 {p : Program} {l : Launch} {e : Env} {s : State} {m : MethodId} {args : Array Value} {below : List Frame} {meth : Method} {c : Code} {D : va_G} {ca : Nat → ClassId} {ad : Nat → Nat} {H : Heap} {locs : List Loc} {ls : Array Slot} {mem : Mm} {x2 : Int32} {x3 : Int32} {x6 : Int32} {x7 : Int32} {s0 : Int32} {k18 : Mm → Int32 → Int32 → Int32 → Int32 → Int32 → Option Int32} {r : Int32} (X : CallFix p m c cX9_passes 8 s args TT RX9) (M : Mt meth (some .boolean)) (hk18 : ∀ (x2 : Int32) (x3 : Int32) (x4 : Int32) (x5 : Int32) (x6 : Int32) (H : Heap) (locs : List Loc) (ls : Array Slot) , Wd D ca ad layM (AA ad layM.length) s.heap s mem H locs → lv_has ls 8 [(0, .ref (ad 0)), (2, .int x2), (3, .int x3), (4, .int x4), (5, .int x5), (6, .int x6)] → k18 mem x2 x3 x4 x5 x6 = some r → W p l e (rmx 2 42) s m args below meth c H locs 0 0 (EndI D ca ad layM mem r below args s) (F0 m 18 ls []))  (w : Wd D ca ad layM (AA ad layM.length) s.heap s mem H locs) (hl : lv_has ls 8 [(0, .ref (ad 0)), (2, .int x2), (3, .int x3), (6, .int x6), (7, .int x7)]) (h : fX9_passes_b54 k18 mem x2 x3 x6 x7 s0 = some r) : W p l e (rmx 2 42) s m args below meth c H locs 0 0 (EndI D ca ad layM mem r below args s) (F0 m 54 ls [.int s0]) := by
  unfold fX9_passes_b54 at h
  refine lv_istore (lv' := [(4, .int s0), (0, .ref (ad 0)), (2, .int x2), (3, .int x3), (6, .int x6), (7, .int x7)]) X.1 X.2.1 dX9_passes_54 hl (by decide) rfl (fun ls hl => ?_)
  refine lv_aload_n X.1 X.2.1 dX9_passes_56 rfl (lv_at hl 1 rfl) ?_
  refine r_getr (b2 := 1) X w lyM_0 rfl inT9 1 rfl rfl (by decide) rfl tw_903 dX9_passes_57 ?_
  refine lv_iconst (v := (0 : Int32)) X.1 X.2.1 dX9_passes_60 (by decide) ?_
  refine lv_iload X.1 X.2.1 dX9_passes_61 (lv_at hl 5 rfl) ?_
  refine lv_iadd X.1 X.2.1 dX9_passes_63 ?_
  obtain ⟨hi1, h⟩ := gd_some h
  refine r_iald X w lyM_1 hi1 dX9_passes_64 ?_
  refine r_cSi (As := [.int (mem 1 ((0 : Int32) + x7).toNatClampNeg)]) (rest := []) X w (kX9_whatOf  l D ca ad mem (mem 1 ((0 : Int32) + x7).toNatClampNeg)  rfl) (gTS tw_993 tw_994 tw_75 tw_995) hdX9_whatOf (by decide) rfl hl.1 rfl (Nat.le_of_ble_eq_true rfl) dX9_passes_65 ⟨Nat.zero_le _, Nat.zero_le _⟩ (fun H locs w => ?_)
  refine lv_iconst (v := (1 : Int32)) X.1 X.2.1 dX9_passes_68 (by decide) ?_
  refine lv_icmp_ne (tgt := 87) X.1 X.2.1 dX9_passes_69 (by decide) (fun c2 => ?_) (fun c2 => ?_)
  · rw [if_neg c2] at h
    refine lv_iconst (v := (-1 : Int32)) X.1 X.2.1 dX9_passes_87 (by decide) ?_
    refine lv_istore (lv' := [(5, .int (-1 : Int32)), (4, .int s0), (0, .ref (ad 0)), (2, .int x2), (3, .int x3), (6, .int x6), (7, .int x7)]) X.1 X.2.1 dX9_passes_88 hl (by decide) rfl (fun ls hl => ?_)
    refine lv_iinc (v := (x6 + (-1 : Int32))) (lv' := [(6, .int (x6 + (-1 : Int32))), (5, .int (-1 : Int32)), (4, .int s0), (0, .ref (ad 0)), (2, .int x2), (3, .int x3), (7, .int x7)]) X.1 X.2.1 dX9_passes_90 hl (k := 5) rfl rfl (by decide) rfl (fun ls hl => ?_)
    refine lv_goto (tgt := 18) X.1 X.2.1 dX9_passes_93 (by decide) ?_
    exact hk18 _ _ _ _ _ H locs ls w (lv_sub hl [3, 4, 5, 2, 1, 0] rfl) h
  · rw [if_pos c2] at h
    refine lv_aload_n X.1 X.2.1 dX9_passes_72 rfl (lv_at hl 1 rfl) ?_
    refine r_getr (b2 := 1) X w lyM_0 rfl inT9 1 rfl rfl (by decide) rfl tw_903 dX9_passes_73 ?_
    refine lv_iconst (v := (0 : Int32)) X.1 X.2.1 dX9_passes_76 (by decide) ?_
    refine lv_iload X.1 X.2.1 dX9_passes_77 (lv_at hl 5 rfl) ?_
    refine lv_iadd X.1 X.2.1 dX9_passes_79 ?_
    obtain ⟨hi3, h⟩ := gd_some h
    refine r_iald X w lyM_1 hi3 dX9_passes_80 ?_
    refine r_cSi (As := [.int (mem 1 ((0 : Int32) + x7).toNatClampNeg)]) (rest := []) X w (kX9_targetOf  l D ca ad mem (mem 1 ((0 : Int32) + x7).toNatClampNeg)  rfl) (gTS tw_1087 tw_1088 tw_75 tw_1089) hdX9_targetOf (by decide) rfl hl.1 rfl (Nat.le_of_ble_eq_true rfl) dX9_passes_81 ⟨Nat.zero_le _, Nat.zero_le _⟩ (fun H locs w => ?_)
    refine lv_goto (tgt := 88) X.1 X.2.1 dX9_passes_84 (by decide) ?_
    obtain ⟨x_4, ex_4, h⟩ := lk_some h
    refine lv_name ex_4 ?_
    refine lv_istore (lv' := [(5, .int x_4), (4, .int s0), (0, .ref (ad 0)), (2, .int x2), (3, .int x3), (6, .int x6), (7, .int x7)]) X.1 X.2.1 dX9_passes_88 hl (by decide) rfl (fun ls hl => ?_)
    refine lv_iinc (v := (x6 + (-1 : Int32))) (lv' := [(6, .int (x6 + (-1 : Int32))), (5, .int x_4), (4, .int s0), (0, .ref (ad 0)), (2, .int x2), (3, .int x3), (7, .int x7)]) X.1 X.2.1 dX9_passes_90 hl (k := 5) rfl rfl (by decide) rfl (fun ls hl => ?_)
    refine lv_goto (tgt := 18) X.1 X.2.1 dX9_passes_93 (by decide) ?_
    exact hk18 _ _ _ _ _ H locs ls w (lv_sub hl [3, 4, 5, 2, 1, 0] rfl) h
def fX9_passes_b18_s  (k18 : Mm → Int32 → Int32 → Int32 → Int32 → Int32 → Option Int32) (mem : Mm) (x2 : Int32) (x3 : Int32) (x4 : Int32) (x5 : Int32) (x6 : Int32) : Option Int32 :=
  if x6 < 0 then gz x4 (some x4) else if x5 < 0 then gz x4 (some x4) else bd (fX9_place x5 x2 x6) (fun r3 => if x4 = 0 then if r3 = x3 then fX9_passes_b54 k18 mem x2 x3 x6 r3 (1 : Int32) else fX9_passes_b54 k18 mem x2 x3 x6 r3 (0 : Int32) else fX9_passes_b54 k18 mem x2 x3 x6 r3 (1 : Int32))
def fX9_passes_b18  : Nat → Mm → Int32 → Int32 → Int32 → Int32 → Int32 → Option Int32
  | 0 => fun _ _ _ _ _ _ => none
  | n + 1 => fX9_passes_b18_s  (fX9_passes_b18  n)
set_option maxRecDepth 100000 in
set_option maxHeartbeats 4000000 in
theorem wX9_passes_b18_s {p : Program} {l : Launch} {e : Env} {s : State} {m : MethodId} {args : Array Value} {below : List Frame} {meth : Method} {c : Code} {D : va_G} {ca : Nat → ClassId} {ad : Nat → Nat} {H : Heap} {locs : List Loc} {ls : Array Slot} {mem : Mm} {x2 : Int32} {x3 : Int32} {x4 : Int32} {x5 : Int32} {x6 : Int32}  {k18 : Mm → Int32 → Int32 → Int32 → Int32 → Int32 → Option Int32} {r : Int32} (X : CallFix p m c cX9_passes 8 s args TT RX9) (M : Mt meth (some .boolean))  (hk18 : ∀ (x2 : Int32) (x3 : Int32) (x4 : Int32) (x5 : Int32) (x6 : Int32) (H : Heap) (locs : List Loc) (ls : Array Slot) , Wd D ca ad layM (AA ad layM.length) s.heap s mem H locs → lv_has ls 8 [(0, .ref (ad 0)), (2, .int x2), (3, .int x3), (4, .int x4), (5, .int x5), (6, .int x6)] → k18 mem x2 x3 x4 x5 x6 = some r → W p l e (rmx 2 42) s m args below meth c H locs 0 0 (EndI D ca ad layM mem r below args s) (F0 m 18 ls []))  (w : Wd D ca ad layM (AA ad layM.length) s.heap s mem H locs) (hl : lv_has ls 8 [(0, .ref (ad 0)), (2, .int x2), (3, .int x3), (4, .int x4), (5, .int x5), (6, .int x6)]) (h : fX9_passes_b18_s  k18 mem x2 x3 x4 x5 x6 = some r) : W p l e (rmx 2 42) s m args below meth c H locs 0 0 (EndI D ca ad layM mem r below args s) (F0 m 18 ls []) := by
  unfold fX9_passes_b18_s at h
  refine lv_iload X.1 X.2.1 dX9_passes_18 (lv_at hl 5 rfl) ?_
  refine lv_if_lt (tgt := 96) X.1 X.2.1 dX9_passes_20 (by decide) (fun c1 => ?_) (fun c1 => ?_)
  · rw [if_pos c1] at h
    refine lv_iload X.1 X.2.1 dX9_passes_96 (lv_at hl 3 rfl) ?_
    obtain ⟨hz, h⟩ := gz_some h
    obtain rfl := Option.some.inj h
    exact r_zret X M w hz dX9_passes_98
  · rw [if_neg c1] at h
    refine lv_iload X.1 X.2.1 dX9_passes_23 (lv_at hl 4 rfl) ?_
    refine lv_if_lt (tgt := 96) X.1 X.2.1 dX9_passes_25 (by decide) (fun c2 => ?_) (fun c2 => ?_)
    · rw [if_pos c2] at h
      refine lv_iload X.1 X.2.1 dX9_passes_96 (lv_at hl 3 rfl) ?_
      obtain ⟨hz, h⟩ := gz_some h
      obtain rfl := Option.some.inj h
      exact r_zret X M w hz dX9_passes_98
    · rw [if_neg c2] at h
      refine lv_iload X.1 X.2.1 dX9_passes_28 (lv_at hl 4 rfl) ?_
      refine lv_iload_n X.1 X.2.1 dX9_passes_30 rfl (lv_at hl 1 rfl) ?_
      refine lv_iload X.1 X.2.1 dX9_passes_31 (lv_at hl 5 rfl) ?_
      obtain ⟨r3, hr3, h⟩ := bd_some h
      refine r_cSi (As := [.int x5, .int x2, .int x6]) (rest := []) X w (kX9_place  l D ca ad mem x5 x2 x6  hr3) (gTS tw_1081 tw_1082 tw_75 tw_1083) hdX9_place (by decide) rfl hl.1 rfl (Nat.le_of_ble_eq_true rfl) dX9_passes_33 ⟨Nat.zero_le _, Nat.zero_le _⟩ (fun H locs w => ?_)
      refine lv_istore (lv' := [(7, .int r3), (0, .ref (ad 0)), (2, .int x2), (3, .int x3), (4, .int x4), (5, .int x5), (6, .int x6)]) X.1 X.2.1 dX9_passes_36 hl (by decide) rfl (fun ls hl => ?_)
      refine lv_iload X.1 X.2.1 dX9_passes_38 (lv_at hl 4 rfl) ?_
      refine lv_if_ne (tgt := 49) X.1 X.2.1 dX9_passes_40 (by decide) (fun c4 => ?_) (fun c4 => ?_)
      · rw [if_neg c4] at h
        refine lv_iconst (v := (1 : Int32)) X.1 X.2.1 dX9_passes_49 (by decide) ?_
        refine lv_goto (tgt := 54) X.1 X.2.1 dX9_passes_50 (by decide) ?_
        exact wX9_passes_b54 X M hk18 w (lv_sub hl [1, 2, 3, 6, 0] rfl) h
      · rw [if_pos c4] at h
        refine lv_iload X.1 X.2.1 dX9_passes_43 (lv_at hl 0 rfl) ?_
        refine lv_iload_n X.1 X.2.1 dX9_passes_45 rfl (lv_at hl 3 rfl) ?_
        refine lv_icmp_ne (tgt := 53) X.1 X.2.1 dX9_passes_46 (by decide) (fun c5 => ?_) (fun c5 => ?_)
        · rw [if_neg c5] at h
          refine lv_iconst (v := (0 : Int32)) X.1 X.2.1 dX9_passes_53 (by decide) ?_
          exact wX9_passes_b54 X M hk18 w (lv_sub hl [1, 2, 3, 6, 0] rfl) h
        · rw [if_pos c5] at h
          refine lv_iconst (v := (1 : Int32)) X.1 X.2.1 dX9_passes_49 (by decide) ?_
          refine lv_goto (tgt := 54) X.1 X.2.1 dX9_passes_50 (by decide) ?_
          exact wX9_passes_b54 X M hk18 w (lv_sub hl [1, 2, 3, 6, 0] rfl) h
set_option maxRecDepth 100000 in
set_option maxHeartbeats 4000000 in
theorem wX9_passes_b18 {p : Program} {l : Launch} {e : Env} {s : State} {m : MethodId} {args : Array Value} {below : List Frame} {meth : Method} {c : Code} {D : va_G} {ca : Nat → ClassId} {ad : Nat → Nat} {mem : Mm}  {r : Int32} (X : CallFix p m c cX9_passes 8 s args TT RX9) (M : Mt meth (some .boolean))  : ∀ (n : Nat) (x2 : Int32) (x3 : Int32) (x4 : Int32) (x5 : Int32) (x6 : Int32) (H : Heap) (locs : List Loc) (ls : Array Slot)  (_ : Wd D ca ad layM (AA ad layM.length) s.heap s mem H locs) (_ : lv_has ls 8 [(0, .ref (ad 0)), (2, .int x2), (3, .int x3), (4, .int x4), (5, .int x5), (6, .int x6)]) (_ : fX9_passes_b18  n mem x2 x3 x4 x5 x6 = some r), W p l e (rmx 2 42) s m args below meth c H locs 0 0 (EndI D ca ad layM mem r below args s) (F0 m 18 ls []) := by
  intro n
  induction n with
  | zero => intro x2 x3 x4 x5 x6 H locs ls  w hl h; exact (nofun : (none : Option Int32) = _ → _) h
  | succ n ih => intro x2 x3 x4 x5 x6 H locs ls  w hl h; exact wX9_passes_b18_s X M  ih  w hl h
def fX9_passes (mem : Mm) (a1 : Int32) (a2 : Int32) (a3 : Int32) : Option Int32 :=
  gd ((326 : Int32) + a1) 345 (lk (mem 1 ((326 : Int32) + a1).toNatClampNeg) (fun x_2 => fX9_passes_b18 2000 mem a2 a3 (0 : Int32) x_2 (2 : Int32)))
set_option maxRecDepth 100000 in
set_option maxHeartbeats 4000000 in
theorem kX9_passes (l : Launch) (D : va_G) (ca : Nat → ClassId) (ad : Nat → Nat) (mem : Mm) (a1 : Int32) (a2 : Int32) (a3 : Int32)  {r : Int32} (h : fX9_passes mem a1 a2 a3 = some r) : CtI l yX9_passes cX9_passes 8 (some .boolean) (rmx 2 42) D ca ad layM mem [.ref (ad 0), .int a1, .int a2, .int a3] mem r := by
  refine CtI.of (by decide) (Nat.le_of_ble_eq_true rfl) ?_
  intro p e s m args below meth c H locs ls X M w hl
  replace X : CallFix p m c cX9_passes 8 s args TT RX9 := X
  replace hl : lv_has ls 8 [(0, .ref (ad 0)), (1, .int a1), (2, .int a2), (3, .int a3)] := hl
  unfold fX9_passes at h
  refine lv_iconst (v := (0 : Int32)) X.1 X.2.1 dX9_passes_0 (by decide) ?_
  refine lv_istore (lv' := [(4, .int (0 : Int32)), (0, .ref (ad 0)), (1, .int a1), (2, .int a2), (3, .int a3)]) X.1 X.2.1 dX9_passes_1 hl (by decide) rfl (fun ls hl => ?_)
  refine lv_aload_n X.1 X.2.1 dX9_passes_3 rfl (lv_at hl 1 rfl) ?_
  refine r_getr (b2 := 1) X w lyM_0 rfl inT9 1 rfl rfl (by decide) rfl tw_903 dX9_passes_4 ?_
  refine lv_sipush (v := (326 : Int32)) X.1 X.2.1 dX9_passes_7 (by decide) ?_
  refine lv_iload_n X.1 X.2.1 dX9_passes_10 rfl (lv_at hl 2 rfl) ?_
  refine lv_iadd X.1 X.2.1 dX9_passes_11 ?_
  obtain ⟨hi1, h⟩ := gd_some h
  refine r_iald X w lyM_1 hi1 dX9_passes_12 ?_
  obtain ⟨x_2, ex_2, h⟩ := lk_some h
  refine lv_name ex_2 ?_
  refine lv_istore (lv' := [(5, .int x_2), (4, .int (0 : Int32)), (0, .ref (ad 0)), (1, .int a1), (2, .int a2), (3, .int a3)]) X.1 X.2.1 dX9_passes_13 hl (by decide) rfl (fun ls hl => ?_)
  refine lv_iconst (v := (2 : Int32)) X.1 X.2.1 dX9_passes_15 (by decide) ?_
  refine lv_istore (lv' := [(6, .int (2 : Int32)), (5, .int x_2), (4, .int (0 : Int32)), (0, .ref (ad 0)), (1, .int a1), (2, .int a2), (3, .int a3)]) X.1 X.2.1 dX9_passes_16 hl (by decide) rfl (fun ls hl => ?_)
  exact wX9_passes_b18 X M _ _ _ _ _ _ H locs ls w (lv_sub hl [3, 5, 6, 2, 1, 0] rfl) h
/-! WalkHouseModel.through(III)I (W) -/
theorem hdX9_through : yX9_through.cls = RX9 ∧ yX9_through.cls ≠ "java/lang/invoke/MethodHandle" ∧ yX9_through.cls ≠ "java/lang/invoke/VarHandle" ∧ (parseMethodDescriptor yX9_through.desc).map (fun d => d.parameters.length) = some 3 := by decide +kernel
def fX9_through_b28_s  (k28 : Mm → Int32 → Int32 → Int32 → Int32 → Int32 → Option (Mm × Int32)) (mem : Mm) (x1 : Int32) (x2 : Int32) (x3 : Int32) (x4 : Int32) (x5 : Int32) : Option (Mm × Int32) :=
  if (512 : Int32) ≤ x5 then some (mem, x4) else bd (fX9_passes mem x1 x5 (((8 : Int32) * x2) + x3)) (fun r2 => if r2 = 0 then lk (x4 + (0 : Int32)) (fun x_4 => k28 mem x1 x2 x3 x_4 (x5 + (1 : Int32))) else lk (x4 + (1 : Int32)) (fun x_5 => k28 mem x1 x2 x3 x_5 (x5 + (1 : Int32))))
def fX9_through_b28  : Nat → Mm → Int32 → Int32 → Int32 → Int32 → Int32 → Option (Mm × Int32)
  | 0 => fun _ _ _ _ _ _ => none
  | n + 1 => fX9_through_b28_s  (fX9_through_b28  n)
set_option maxRecDepth 100000 in
set_option maxHeartbeats 4000000 in
theorem wX9_through_b28_s {p : Program} {l : Launch} {e : Env} {s : State} {m : MethodId} {args : Array Value} {below : List Frame} {meth : Method} {c : Code} {D : va_G} {ca : Nat → ClassId} {ad : Nat → Nat} {H : Heap} {locs : List Loc} {ls : Array Slot} {mem : Mm} {x1 : Int32} {x2 : Int32} {x3 : Int32} {x4 : Int32} {x5 : Int32}  {k28 : Mm → Int32 → Int32 → Int32 → Int32 → Int32 → Option (Mm × Int32)} {mem' : Mm} {r : Int32} (X : CallFix p m c cX9_through 6 s args TT RX9) (M : Mt meth (some .int))  (hk28 : ∀ (mem : Mm) (x1 : Int32) (x2 : Int32) (x3 : Int32) (x4 : Int32) (x5 : Int32) (H : Heap) (locs : List Loc) (ls : Array Slot) , Wd D ca ad layM (AA ad layM.length) s.heap s mem H locs → lv_has ls 6 [(0, .ref (ad 0)), (1, .int x1), (2, .int x2), (3, .int x3), (4, .int x4), (5, .int x5)] → k28 mem x1 x2 x3 x4 x5 = some (mem', r) → W p l e (rmx 3 69) s m args below meth c H locs 0 0 (EndI D ca ad layM mem' r below args s) (F0 m 28 ls []))  (w : Wd D ca ad layM (AA ad layM.length) s.heap s mem H locs) (hl : lv_has ls 6 [(0, .ref (ad 0)), (1, .int x1), (2, .int x2), (3, .int x3), (4, .int x4), (5, .int x5)]) (h : fX9_through_b28_s  k28 mem x1 x2 x3 x4 x5 = some (mem', r)) : W p l e (rmx 3 69) s m args below meth c H locs 0 0 (EndI D ca ad layM mem' r below args s) (F0 m 28 ls []) := by
  unfold fX9_through_b28_s at h
  refine lv_iload X.1 X.2.1 dX9_through_28 (lv_at hl 5 rfl) ?_
  refine lv_sipush (v := (512 : Int32)) X.1 X.2.1 dX9_through_30 (by decide) ?_
  refine lv_icmp_ge (tgt := 68) X.1 X.2.1 dX9_through_33 (by decide) (fun c1 => ?_) (fun c1 => ?_)
  · rw [if_pos c1] at h
    refine lv_iload X.1 X.2.1 dX9_through_68 (lv_at hl 4 rfl) ?_
    obtain ⟨rfl, rfl⟩ := Prod.mk.inj (Option.some.inj h)
    exact r_iret X M w dX9_through_70
  · rw [if_neg c1] at h
    refine lv_iload X.1 X.2.1 dX9_through_36 (lv_at hl 4 rfl) ?_
    refine lv_aload_n X.1 X.2.1 dX9_through_38 rfl (lv_at hl 0 rfl) ?_
    refine lv_iload_n X.1 X.2.1 dX9_through_39 rfl (lv_at hl 1 rfl) ?_
    refine lv_iload X.1 X.2.1 dX9_through_40 (lv_at hl 5 rfl) ?_
    refine lv_bipush (v := (8 : Int32)) X.1 X.2.1 dX9_through_42 (by decide) ?_
    refine lv_iload_n X.1 X.2.1 dX9_through_44 rfl (lv_at hl 2 rfl) ?_
    refine lv_imul X.1 X.2.1 dX9_through_45 ?_
    refine lv_iload_n X.1 X.2.1 dX9_through_46 rfl (lv_at hl 3 rfl) ?_
    refine lv_iadd X.1 X.2.1 dX9_through_47 ?_
    obtain ⟨r2, hr2, h⟩ := bd_some h
    refine r_cVi (As := [.int x1, .int x5, .int (((8 : Int32) * x2) + x3)]) (rest := [.int x4]) X w lyM_0 rfl (kX9_passes  l D ca ad mem x1 x5 (((8 : Int32) * x2) + x3)  hr2) (gTV tw_1229 tw_1231 tw_61 tw_75 tw_1232) hdX9_passes (by decide) rfl hl.1 rfl (Nat.le_of_ble_eq_true rfl) dX9_through_48 ⟨Nat.zero_le _, Nat.zero_le _⟩ (fun H locs w => ?_)
    refine lv_if_eq (tgt := 58) X.1 X.2.1 dX9_through_51 (by decide) (fun c3 => ?_) (fun c3 => ?_)
    · rw [if_pos c3] at h
      refine lv_iconst (v := (0 : Int32)) X.1 X.2.1 dX9_through_58 (by decide) ?_
      refine lv_iadd X.1 X.2.1 dX9_through_59 ?_
      obtain ⟨x_4, ex_4, h⟩ := lk_some h
      refine lv_name ex_4 ?_
      refine lv_istore (lv' := [(4, .int x_4), (0, .ref (ad 0)), (1, .int x1), (2, .int x2), (3, .int x3), (5, .int x5)]) X.1 X.2.1 dX9_through_60 hl (by decide) rfl (fun ls hl => ?_)
      refine lv_iinc (v := (x5 + (1 : Int32))) (lv' := [(5, .int (x5 + (1 : Int32))), (4, .int x_4), (0, .ref (ad 0)), (1, .int x1), (2, .int x2), (3, .int x3)]) X.1 X.2.1 dX9_through_62 hl (k := 5) rfl rfl (by decide) rfl (fun ls hl => ?_)
      refine lv_goto (tgt := 28) X.1 X.2.1 dX9_through_65 (by decide) ?_
      exact hk28 _ _ _ _ _ _ H locs ls w (lv_sub hl [2, 3, 4, 5, 1, 0] rfl) h
    · rw [if_neg c3] at h
      refine lv_iconst (v := (1 : Int32)) X.1 X.2.1 dX9_through_54 (by decide) ?_
      refine lv_goto (tgt := 59) X.1 X.2.1 dX9_through_55 (by decide) ?_
      refine lv_iadd X.1 X.2.1 dX9_through_59 ?_
      obtain ⟨x_5, ex_5, h⟩ := lk_some h
      refine lv_name ex_5 ?_
      refine lv_istore (lv' := [(4, .int x_5), (0, .ref (ad 0)), (1, .int x1), (2, .int x2), (3, .int x3), (5, .int x5)]) X.1 X.2.1 dX9_through_60 hl (by decide) rfl (fun ls hl => ?_)
      refine lv_iinc (v := (x5 + (1 : Int32))) (lv' := [(5, .int (x5 + (1 : Int32))), (4, .int x_5), (0, .ref (ad 0)), (1, .int x1), (2, .int x2), (3, .int x3)]) X.1 X.2.1 dX9_through_62 hl (k := 5) rfl rfl (by decide) rfl (fun ls hl => ?_)
      refine lv_goto (tgt := 28) X.1 X.2.1 dX9_through_65 (by decide) ?_
      exact hk28 _ _ _ _ _ _ H locs ls w (lv_sub hl [2, 3, 4, 5, 1, 0] rfl) h
set_option maxRecDepth 100000 in
set_option maxHeartbeats 4000000 in
theorem wX9_through_b28 {p : Program} {l : Launch} {e : Env} {s : State} {m : MethodId} {args : Array Value} {below : List Frame} {meth : Method} {c : Code} {D : va_G} {ca : Nat → ClassId} {ad : Nat → Nat}  {mem' : Mm} {r : Int32} (X : CallFix p m c cX9_through 6 s args TT RX9) (M : Mt meth (some .int))  : ∀ (n : Nat) (mem : Mm) (x1 : Int32) (x2 : Int32) (x3 : Int32) (x4 : Int32) (x5 : Int32) (H : Heap) (locs : List Loc) (ls : Array Slot)  (_ : Wd D ca ad layM (AA ad layM.length) s.heap s mem H locs) (_ : lv_has ls 6 [(0, .ref (ad 0)), (1, .int x1), (2, .int x2), (3, .int x3), (4, .int x4), (5, .int x5)]) (_ : fX9_through_b28  n mem x1 x2 x3 x4 x5 = some (mem', r)), W p l e (rmx 3 69) s m args below meth c H locs 0 0 (EndI D ca ad layM mem' r below args s) (F0 m 28 ls []) := by
  intro n
  induction n with
  | zero => intro mem x1 x2 x3 x4 x5 H locs ls  w hl h; exact (nofun : (none : Option (Mm × Int32)) = _ → _) h
  | succ n ih => intro mem x1 x2 x3 x4 x5 H locs ls  w hl h; exact wX9_through_b28_s X M  ih  w hl h
def fX9_through (mem : Mm) (a1 : Int32) (a2 : Int32) (a3 : Int32) : Option (Mm × Int32) :=
  wk mem 0 0 (0 : Int32) (fun m1 => if (fX9_isSpace a1) = 0 then some (m1, (-1 : Int32)) else if (fX9_isEntry a2 a3) = 0 then some (m1, (-1 : Int32)) else fX9_through_b28 2000 m1 a1 a2 a3 (0 : Int32) (0 : Int32))
set_option maxRecDepth 100000 in
set_option maxHeartbeats 4000000 in
theorem kX9_through (l : Launch) (D : va_G) (ca : Nat → ClassId) (ad : Nat → Nat) (mem : Mm) (a1 : Int32) (a2 : Int32) (a3 : Int32)  {mem' : Mm} {r : Int32} (h : fX9_through mem a1 a2 a3 = some (mem', r)) : CtI l yX9_through cX9_through 6 (some .int) (rmx 3 69) D ca ad layM mem [.ref (ad 0), .int a1, .int a2, .int a3] mem' r := by
  refine CtI.of (by decide) (Nat.le_of_ble_eq_true rfl) ?_
  intro p e s m args below meth c H locs ls X M w hl
  replace X : CallFix p m c cX9_through 6 s args TT RX9 := X
  replace hl : lv_has ls 6 [(0, .ref (ad 0)), (1, .int a1), (2, .int a2), (3, .int a3)] := hl
  unfold fX9_through at h
  refine lv_aload_n X.1 X.2.1 dX9_through_0 rfl (lv_at hl 0 rfl) ?_
  refine lv_iconst (v := (0 : Int32)) X.1 X.2.1 dX9_through_1 (by decide) ?_
  refine r_put X w lyM_0 rfl inT9 tyX9 tyX9_ok nmX9 0 rfl (by decide) rfl rfl tw_902 rfl rfl dX9_through_2 (fun H locs w => ?_)
  obtain ⟨m1, em1, h⟩ := wk_some h
  rw [em1] at w
  refine lv_iload_n X.1 X.2.1 dX9_through_5 rfl (lv_at hl 1 rfl) ?_
  refine r_cSi (As := [.int a1]) (rest := []) X w (kX9_isSpace  l D ca ad m1 a1  rfl) (gTS tw_1004 tw_1005 tw_75 tw_1006) hdX9_isSpace (by decide) rfl hl.1 rfl (Nat.le_of_ble_eq_true rfl) dX9_through_6 ⟨Nat.zero_le _, Nat.zero_le _⟩ (fun H locs w => ?_)
  refine lv_if_eq (tgt := 20) X.1 X.2.1 dX9_through_9 (by decide) (fun c2 => ?_) (fun c2 => ?_)
  · rw [if_pos c2] at h
    refine lv_iconst (v := (-1 : Int32)) X.1 X.2.1 dX9_through_20 (by decide) ?_
    obtain ⟨rfl, rfl⟩ := Prod.mk.inj (Option.some.inj h)
    exact r_iret X M w dX9_through_21
  · rw [if_neg c2] at h
    refine lv_iload_n X.1 X.2.1 dX9_through_12 rfl (lv_at hl 2 rfl) ?_
    refine lv_iload_n X.1 X.2.1 dX9_through_13 rfl (lv_at hl 3 rfl) ?_
    refine r_cSi (As := [.int a2, .int a3]) (rest := []) X w (kX9_isEntry  l D ca ad m1 a2 a3  rfl) (gTS tw_986 tw_987 tw_75 tw_988) hdX9_isEntry (by decide) rfl hl.1 rfl (Nat.le_of_ble_eq_true rfl) dX9_through_14 ⟨Nat.zero_le _, Nat.zero_le _⟩ (fun H locs w => ?_)
    refine lv_if_ne (tgt := 22) X.1 X.2.1 dX9_through_17 (by decide) (fun c3 => ?_) (fun c3 => ?_)
    · rw [if_neg c3] at h
      refine lv_iconst (v := (0 : Int32)) X.1 X.2.1 dX9_through_22 (by decide) ?_
      refine lv_istore (lv' := [(4, .int (0 : Int32)), (0, .ref (ad 0)), (1, .int a1), (2, .int a2), (3, .int a3)]) X.1 X.2.1 dX9_through_23 hl (by decide) rfl (fun ls hl => ?_)
      refine lv_iconst (v := (0 : Int32)) X.1 X.2.1 dX9_through_25 (by decide) ?_
      refine lv_istore (lv' := [(5, .int (0 : Int32)), (4, .int (0 : Int32)), (0, .ref (ad 0)), (1, .int a1), (2, .int a2), (3, .int a3)]) X.1 X.2.1 dX9_through_26 hl (by decide) rfl (fun ls hl => ?_)
      exact wX9_through_b28 X M _ _ _ _ _ _ _ H locs ls w (lv_sub hl [2, 3, 4, 5, 1, 0] rfl) h
    · rw [if_pos c3] at h
      refine lv_iconst (v := (-1 : Int32)) X.1 X.2.1 dX9_through_20 (by decide) ?_
      obtain ⟨rfl, rfl⟩ := Prod.mk.inj (Option.some.inj h)
      exact r_iret X M w dX9_through_21
/-! WalkHouseModel.space(II)I (W) -/
theorem hdX9_space : yX9_space.cls = RX9 ∧ yX9_space.cls ≠ "java/lang/invoke/MethodHandle" ∧ yX9_space.cls ≠ "java/lang/invoke/VarHandle" ∧ (parseMethodDescriptor yX9_space.desc).map (fun d => d.parameters.length) = some 2 := by decide +kernel
def fX9_space (mem : Mm) (a1 : Int32) (a2 : Int32) : Option (Mm × Int32) :=
  wk mem 0 0 (0 : Int32) (fun m1 => if (fX9_isSpace a1) = 0 then some (m1, (-1 : Int32)) else if a2 = 0 then gd ((326 : Int32) + a1) 345 (some (m1, (m1 1 ((326 : Int32) + a1).toNatClampNeg))) else if a2 = (1 : Int32) then gd ((332 : Int32) + a1) 345 (some (m1, (m1 1 ((332 : Int32) + a1).toNatClampNeg))) else if a2 = (2 : Int32) then gd (344 : Int32) 345 (if (m1 1 (344 : Int32).toNatClampNeg) = a1 then some (m1, (1 : Int32)) else some (m1, (0 : Int32))) else some (m1, (-1 : Int32)))
set_option maxRecDepth 100000 in
set_option maxHeartbeats 4000000 in
theorem kX9_space (l : Launch) (D : va_G) (ca : Nat → ClassId) (ad : Nat → Nat) (mem : Mm) (a1 : Int32) (a2 : Int32)  {mem' : Mm} {r : Int32} (h : fX9_space mem a1 a2 = some (mem', r)) : CtI l yX9_space cX9_space 3 (some .int) (rmx 2 42) D ca ad layM mem [.ref (ad 0), .int a1, .int a2] mem' r := by
  refine CtI.of (by decide) (Nat.le_of_ble_eq_true rfl) ?_
  intro p e s m args below meth c H locs ls X M w hl
  replace X : CallFix p m c cX9_space 3 s args TT RX9 := X
  replace hl : lv_has ls 3 [(0, .ref (ad 0)), (1, .int a1), (2, .int a2)] := hl
  unfold fX9_space at h
  refine lv_aload_n X.1 X.2.1 dX9_space_0 rfl (lv_at hl 0 rfl) ?_
  refine lv_iconst (v := (0 : Int32)) X.1 X.2.1 dX9_space_1 (by decide) ?_
  refine r_put X w lyM_0 rfl inT9 tyX9 tyX9_ok nmX9 0 rfl (by decide) rfl rfl tw_902 rfl rfl dX9_space_2 (fun H locs w => ?_)
  obtain ⟨m1, em1, h⟩ := wk_some h
  rw [em1] at w
  refine lv_iload_n X.1 X.2.1 dX9_space_5 rfl (lv_at hl 1 rfl) ?_
  refine r_cSi (As := [.int a1]) (rest := []) X w (kX9_isSpace  l D ca ad m1 a1  rfl) (gTS tw_1004 tw_1005 tw_75 tw_1006) hdX9_isSpace (by decide) rfl hl.1 rfl (Nat.le_of_ble_eq_true rfl) dX9_space_6 ⟨Nat.zero_le _, Nat.zero_le _⟩ (fun H locs w => ?_)
  refine lv_if_ne (tgt := 14) X.1 X.2.1 dX9_space_9 (by decide) (fun c2 => ?_) (fun c2 => ?_)
  · rw [if_neg c2] at h
    refine lv_iload_n X.1 X.2.1 dX9_space_14 rfl (lv_at hl 2 rfl) ?_
    refine lv_if_ne (tgt := 31) X.1 X.2.1 dX9_space_15 (by decide) (fun c3 => ?_) (fun c3 => ?_)
    · rw [if_neg c3] at h
      refine lv_iload_n X.1 X.2.1 dX9_space_31 rfl (lv_at hl 2 rfl) ?_
      refine lv_iconst (v := (1 : Int32)) X.1 X.2.1 dX9_space_32 (by decide) ?_
      refine lv_icmp_ne (tgt := 49) X.1 X.2.1 dX9_space_33 (by decide) (fun c4 => ?_) (fun c4 => ?_)
      · rw [if_neg c4] at h
        refine lv_iload_n X.1 X.2.1 dX9_space_49 rfl (lv_at hl 2 rfl) ?_
        refine lv_iconst (v := (2 : Int32)) X.1 X.2.1 dX9_space_50 (by decide) ?_
        refine lv_icmp_ne (tgt := 74) X.1 X.2.1 dX9_space_51 (by decide) (fun c5 => ?_) (fun c5 => ?_)
        · rw [if_neg c5] at h
          refine lv_iconst (v := (-1 : Int32)) X.1 X.2.1 dX9_space_74 (by decide) ?_
          obtain ⟨rfl, rfl⟩ := Prod.mk.inj (Option.some.inj h)
          exact r_iret X M w dX9_space_75
        · rw [if_pos c5] at h
          refine lv_aload_n X.1 X.2.1 dX9_space_54 rfl (lv_at hl 0 rfl) ?_
          refine r_getr (b2 := 1) X w lyM_0 rfl inT9 1 rfl rfl (by decide) rfl tw_903 dX9_space_55 ?_
          refine lv_sipush (v := (344 : Int32)) X.1 X.2.1 dX9_space_58 (by decide) ?_
          obtain ⟨hi6, h⟩ := gd_some h
          refine r_iald X w lyM_1 hi6 dX9_space_61 ?_
          refine lv_iload_n X.1 X.2.1 dX9_space_62 rfl (lv_at hl 1 rfl) ?_
          refine lv_icmp_ne (tgt := 70) X.1 X.2.1 dX9_space_63 (by decide) (fun c7 => ?_) (fun c7 => ?_)
          · rw [if_neg c7] at h
            refine lv_iconst (v := (0 : Int32)) X.1 X.2.1 dX9_space_70 (by decide) ?_
            refine lv_goto (tgt := 75) X.1 X.2.1 dX9_space_71 (by decide) ?_
            obtain ⟨rfl, rfl⟩ := Prod.mk.inj (Option.some.inj h)
            exact r_iret X M w dX9_space_75
          · rw [if_pos c7] at h
            refine lv_iconst (v := (1 : Int32)) X.1 X.2.1 dX9_space_66 (by decide) ?_
            refine lv_goto (tgt := 75) X.1 X.2.1 dX9_space_67 (by decide) ?_
            obtain ⟨rfl, rfl⟩ := Prod.mk.inj (Option.some.inj h)
            exact r_iret X M w dX9_space_75
      · rw [if_pos c4] at h
        refine lv_aload_n X.1 X.2.1 dX9_space_36 rfl (lv_at hl 0 rfl) ?_
        refine r_getr (b2 := 1) X w lyM_0 rfl inT9 1 rfl rfl (by decide) rfl tw_903 dX9_space_37 ?_
        refine lv_sipush (v := (332 : Int32)) X.1 X.2.1 dX9_space_40 (by decide) ?_
        refine lv_iload_n X.1 X.2.1 dX9_space_43 rfl (lv_at hl 1 rfl) ?_
        refine lv_iadd X.1 X.2.1 dX9_space_44 ?_
        obtain ⟨hi8, h⟩ := gd_some h
        refine r_iald X w lyM_1 hi8 dX9_space_45 ?_
        refine lv_goto (tgt := 75) X.1 X.2.1 dX9_space_46 (by decide) ?_
        obtain ⟨rfl, rfl⟩ := Prod.mk.inj (Option.some.inj h)
        exact r_iret X M w dX9_space_75
    · rw [if_pos c3] at h
      refine lv_aload_n X.1 X.2.1 dX9_space_18 rfl (lv_at hl 0 rfl) ?_
      refine r_getr (b2 := 1) X w lyM_0 rfl inT9 1 rfl rfl (by decide) rfl tw_903 dX9_space_19 ?_
      refine lv_sipush (v := (326 : Int32)) X.1 X.2.1 dX9_space_22 (by decide) ?_
      refine lv_iload_n X.1 X.2.1 dX9_space_25 rfl (lv_at hl 1 rfl) ?_
      refine lv_iadd X.1 X.2.1 dX9_space_26 ?_
      obtain ⟨hi9, h⟩ := gd_some h
      refine r_iald X w lyM_1 hi9 dX9_space_27 ?_
      refine lv_goto (tgt := 75) X.1 X.2.1 dX9_space_28 (by decide) ?_
      obtain ⟨rfl, rfl⟩ := Prod.mk.inj (Option.some.inj h)
      exact r_iret X M w dX9_space_75
  · rw [if_pos c2] at h
    refine lv_iconst (v := (-1 : Int32)) X.1 X.2.1 dX9_space_12 (by decide) ?_
    obtain ⟨rfl, rfl⟩ := Prod.mk.inj (Option.some.inj h)
    exact r_iret X M w dX9_space_13
/-! WalkHouseModel.manyIn(IZ)I (W) -/
theorem hdX9_manyIn : yX9_manyIn.cls = RX9 ∧ yX9_manyIn.cls ≠ "java/lang/invoke/MethodHandle" ∧ yX9_manyIn.cls ≠ "java/lang/invoke/VarHandle" ∧ (parseMethodDescriptor yX9_manyIn.desc).map (fun d => d.parameters.length) = some 2 := by decide +kernel
def fX9_manyIn_b67 (k5 : Mm → Int32 → Int32 → Int32 → Int32 → Option (Mm × Int32)) (mem : Mm) (x1 : Int32) (x2 : Int32) (x3 : Int32) (x4 : Int32) (s0 : Int32) : Option (Mm × Int32) :=
  if s0 = 0 then lk (x3 + (0 : Int32)) (fun x_2 => k5 mem x1 x2 x_2 (x4 + (1 : Int32))) else lk (x3 + (1 : Int32)) (fun x_3 => k5 mem x1 x2 x_3 (x4 + (1 : Int32)))
set_option maxRecDepth 100000 in
set_option maxHeartbeats 4000000 in
theorem wX9_manyIn_b67 {p : Program} {l : Launch} {e : Env} {s : State} {m : MethodId} {args : Array Value} {below : List Frame} {meth : Method} {c : Code} {D : va_G} {ca : Nat → ClassId} {ad : Nat → Nat} {H : Heap} {locs : List Loc} {ls : Array Slot} {mem : Mm} {x1 : Int32} {x2 : Int32} {x3 : Int32} {x4 : Int32} {s0 : Int32} {k5 : Mm → Int32 → Int32 → Int32 → Int32 → Option (Mm × Int32)} {mem' : Mm} {r : Int32} (X : CallFix p m c cX9_manyIn 7 s args TT RX9) (M : Mt meth (some .int)) (hk5 : ∀ (mem : Mm) (x1 : Int32) (x2 : Int32) (x3 : Int32) (x4 : Int32) (H : Heap) (locs : List Loc) (ls : Array Slot) , Wd D ca ad layM (AA ad layM.length) s.heap s mem H locs → lv_has ls 7 [(0, .ref (ad 0)), (1, .int x1), (2, .int x2), (3, .int x3), (4, .int x4)] → k5 mem x1 x2 x3 x4 = some (mem', r) → W p l e (rmx 4 90) s m args below meth c H locs 0 0 (EndI D ca ad layM mem' r below args s) (F0 m 5 ls []))  (w : Wd D ca ad layM (AA ad layM.length) s.heap s mem H locs) (hl : lv_has ls 7 [(0, .ref (ad 0)), (1, .int x1), (2, .int x2), (3, .int x3), (4, .int x4)]) (h : fX9_manyIn_b67 k5 mem x1 x2 x3 x4 s0 = some (mem', r)) : W p l e (rmx 4 90) s m args below meth c H locs 0 0 (EndI D ca ad layM mem' r below args s) (F0 m 67 ls [.int s0]) := by
  unfold fX9_manyIn_b67 at h
  refine lv_istore (lv' := [(6, .int s0), (0, .ref (ad 0)), (1, .int x1), (2, .int x2), (3, .int x3), (4, .int x4)]) X.1 X.2.1 dX9_manyIn_67 hl (by decide) rfl (fun ls hl => ?_)
  refine lv_iload_n X.1 X.2.1 dX9_manyIn_69 rfl (lv_at hl 4 rfl) ?_
  refine lv_iload X.1 X.2.1 dX9_manyIn_70 (lv_at hl 0 rfl) ?_
  refine lv_if_eq (tgt := 79) X.1 X.2.1 dX9_manyIn_72 (by decide) (fun c1 => ?_) (fun c1 => ?_)
  · rw [if_pos c1] at h
    refine lv_iconst (v := (0 : Int32)) X.1 X.2.1 dX9_manyIn_79 (by decide) ?_
    refine lv_iadd X.1 X.2.1 dX9_manyIn_80 ?_
    obtain ⟨x_2, ex_2, h⟩ := lk_some h
    refine lv_name ex_2 ?_
    refine lv_istore_n (lv' := [(3, .int x_2), (6, .int s0), (0, .ref (ad 0)), (1, .int x1), (2, .int x2), (4, .int x4)]) X.1 X.2.1 dX9_manyIn_81 rfl hl (by decide) rfl (fun ls hl => ?_)
    refine lv_iinc (v := (x4 + (1 : Int32))) (lv' := [(4, .int (x4 + (1 : Int32))), (3, .int x_2), (6, .int s0), (0, .ref (ad 0)), (1, .int x1), (2, .int x2)]) X.1 X.2.1 dX9_manyIn_82 hl (k := 5) rfl rfl (by decide) rfl (fun ls hl => ?_)
    refine lv_goto (tgt := 5) X.1 X.2.1 dX9_manyIn_85 (by decide) ?_
    exact hk5 _ _ _ _ _ H locs ls w (lv_sub hl [3, 4, 5, 1, 0] rfl) h
  · rw [if_neg c1] at h
    refine lv_iconst (v := (1 : Int32)) X.1 X.2.1 dX9_manyIn_75 (by decide) ?_
    refine lv_goto (tgt := 80) X.1 X.2.1 dX9_manyIn_76 (by decide) ?_
    refine lv_iadd X.1 X.2.1 dX9_manyIn_80 ?_
    obtain ⟨x_3, ex_3, h⟩ := lk_some h
    refine lv_name ex_3 ?_
    refine lv_istore_n (lv' := [(3, .int x_3), (6, .int s0), (0, .ref (ad 0)), (1, .int x1), (2, .int x2), (4, .int x4)]) X.1 X.2.1 dX9_manyIn_81 rfl hl (by decide) rfl (fun ls hl => ?_)
    refine lv_iinc (v := (x4 + (1 : Int32))) (lv' := [(4, .int (x4 + (1 : Int32))), (3, .int x_3), (6, .int s0), (0, .ref (ad 0)), (1, .int x1), (2, .int x2)]) X.1 X.2.1 dX9_manyIn_82 hl (k := 5) rfl rfl (by decide) rfl (fun ls hl => ?_)
    refine lv_goto (tgt := 5) X.1 X.2.1 dX9_manyIn_85 (by decide) ?_
    exact hk5 _ _ _ _ _ H locs ls w (lv_sub hl [3, 4, 5, 1, 0] rfl) h
def fX9_manyIn_b5_s  (k5 : Mm → Int32 → Int32 → Int32 → Int32 → Option (Mm × Int32)) (mem : Mm) (x1 : Int32) (x2 : Int32) (x3 : Int32) (x4 : Int32) : Option (Mm × Int32) :=
  if (6 : Int32) ≤ x4 then some (mem, x3) else lk (x1 + ((7 : Int32) * x4)) (fun x_2 => bd (fX9_isEmpty mem x_2) (fun r3 => if r3 = 0 then if x2 = 0 then fX9_manyIn_b67 k5 mem x1 x2 x3 x4 (1 : Int32) else if x1 = (192 : Int32) then bw (fX9_isStale mem x_2) (fun m11 r10 => if r10 = 0 then fX9_manyIn_b67 k5 m11 x1 x2 x3 x4 (0 : Int32) else fX9_manyIn_b67 k5 m11 x1 x2 x3 x4 (1 : Int32)) else bw (fX9_isStaleAbove mem x_2) (fun m8 r7 => if r7 = 0 then fX9_manyIn_b67 k5 m8 x1 x2 x3 x4 (0 : Int32) else fX9_manyIn_b67 k5 m8 x1 x2 x3 x4 (1 : Int32)) else k5 mem x1 x2 x3 (x4 + (1 : Int32))))
def fX9_manyIn_b5  : Nat → Mm → Int32 → Int32 → Int32 → Int32 → Option (Mm × Int32)
  | 0 => fun _ _ _ _ _ => none
  | n + 1 => fX9_manyIn_b5_s  (fX9_manyIn_b5  n)
set_option maxRecDepth 100000 in
set_option maxHeartbeats 4000000 in
theorem wX9_manyIn_b5_s {p : Program} {l : Launch} {e : Env} {s : State} {m : MethodId} {args : Array Value} {below : List Frame} {meth : Method} {c : Code} {D : va_G} {ca : Nat → ClassId} {ad : Nat → Nat} {H : Heap} {locs : List Loc} {ls : Array Slot} {mem : Mm} {x1 : Int32} {x2 : Int32} {x3 : Int32} {x4 : Int32}  {k5 : Mm → Int32 → Int32 → Int32 → Int32 → Option (Mm × Int32)} {mem' : Mm} {r : Int32} (X : CallFix p m c cX9_manyIn 7 s args TT RX9) (M : Mt meth (some .int))  (hk5 : ∀ (mem : Mm) (x1 : Int32) (x2 : Int32) (x3 : Int32) (x4 : Int32) (H : Heap) (locs : List Loc) (ls : Array Slot) , Wd D ca ad layM (AA ad layM.length) s.heap s mem H locs → lv_has ls 7 [(0, .ref (ad 0)), (1, .int x1), (2, .int x2), (3, .int x3), (4, .int x4)] → k5 mem x1 x2 x3 x4 = some (mem', r) → W p l e (rmx 4 90) s m args below meth c H locs 0 0 (EndI D ca ad layM mem' r below args s) (F0 m 5 ls []))  (w : Wd D ca ad layM (AA ad layM.length) s.heap s mem H locs) (hl : lv_has ls 7 [(0, .ref (ad 0)), (1, .int x1), (2, .int x2), (3, .int x3), (4, .int x4)]) (h : fX9_manyIn_b5_s  k5 mem x1 x2 x3 x4 = some (mem', r)) : W p l e (rmx 4 90) s m args below meth c H locs 0 0 (EndI D ca ad layM mem' r below args s) (F0 m 5 ls []) := by
  unfold fX9_manyIn_b5_s at h
  refine lv_iload X.1 X.2.1 dX9_manyIn_5 (lv_at hl 4 rfl) ?_
  refine lv_bipush (v := (6 : Int32)) X.1 X.2.1 dX9_manyIn_7 (by decide) ?_
  refine lv_icmp_ge (tgt := 88) X.1 X.2.1 dX9_manyIn_9 (by decide) (fun c1 => ?_) (fun c1 => ?_)
  · rw [if_pos c1] at h
    refine lv_iload_n X.1 X.2.1 dX9_manyIn_88 rfl (lv_at hl 3 rfl) ?_
    obtain ⟨rfl, rfl⟩ := Prod.mk.inj (Option.some.inj h)
    exact r_iret X M w dX9_manyIn_89
  · rw [if_neg c1] at h
    refine lv_iload_n X.1 X.2.1 dX9_manyIn_12 rfl (lv_at hl 1 rfl) ?_
    refine lv_bipush (v := (7 : Int32)) X.1 X.2.1 dX9_manyIn_13 (by decide) ?_
    refine lv_iload X.1 X.2.1 dX9_manyIn_15 (lv_at hl 4 rfl) ?_
    refine lv_imul X.1 X.2.1 dX9_manyIn_17 ?_
    refine lv_iadd X.1 X.2.1 dX9_manyIn_18 ?_
    obtain ⟨x_2, ex_2, h⟩ := lk_some h
    refine lv_name ex_2 ?_
    refine lv_istore (lv' := [(5, .int x_2), (0, .ref (ad 0)), (1, .int x1), (2, .int x2), (3, .int x3), (4, .int x4)]) X.1 X.2.1 dX9_manyIn_19 hl (by decide) rfl (fun ls hl => ?_)
    refine lv_aload_n X.1 X.2.1 dX9_manyIn_21 rfl (lv_at hl 1 rfl) ?_
    refine lv_iload X.1 X.2.1 dX9_manyIn_22 (lv_at hl 0 rfl) ?_
    obtain ⟨r3, hr3, h⟩ := bd_some h
    refine r_cVi (As := [.int x_2]) (rest := []) X w lyM_0 rfl (kX9_isEmpty  l D ca ad mem x_2  hr3) (gTV tw_1062 tw_1064 tw_39 tw_75 tw_1065) hdX9_isEmpty (by decide) rfl hl.1 rfl (Nat.le_of_ble_eq_true rfl) dX9_manyIn_24 ⟨Nat.zero_le _, Nat.zero_le _⟩ (fun H locs w => ?_)
    refine lv_if_ne (tgt := 82) X.1 X.2.1 dX9_manyIn_27 (by decide) (fun c4 => ?_) (fun c4 => ?_)
    · rw [if_neg c4] at h
      refine lv_iinc (v := (x4 + (1 : Int32))) (lv' := [(4, .int (x4 + (1 : Int32))), (5, .int x_2), (0, .ref (ad 0)), (1, .int x1), (2, .int x2), (3, .int x3)]) X.1 X.2.1 dX9_manyIn_82 hl (k := 5) rfl rfl (by decide) rfl (fun ls hl => ?_)
      refine lv_goto (tgt := 5) X.1 X.2.1 dX9_manyIn_85 (by decide) ?_
      exact hk5 _ _ _ _ _ H locs ls w (lv_sub hl [2, 3, 4, 5, 0] rfl) h
    · rw [if_pos c4] at h
      refine lv_iload_n X.1 X.2.1 dX9_manyIn_30 rfl (lv_at hl 3 rfl) ?_
      refine lv_if_eq (tgt := 62) X.1 X.2.1 dX9_manyIn_31 (by decide) (fun c5 => ?_) (fun c5 => ?_)
      · rw [if_pos c5] at h
        refine lv_iconst (v := (1 : Int32)) X.1 X.2.1 dX9_manyIn_62 (by decide) ?_
        refine lv_goto (tgt := 67) X.1 X.2.1 dX9_manyIn_63 (by decide) ?_
        exact wX9_manyIn_b67 X M hk5 w (lv_sub hl [1, 2, 3, 4, 5] rfl) h
      · rw [if_neg c5] at h
        refine lv_iload_n X.1 X.2.1 dX9_manyIn_34 rfl (lv_at hl 2 rfl) ?_
        refine lv_sipush (v := (192 : Int32)) X.1 X.2.1 dX9_manyIn_35 (by decide) ?_
        refine lv_icmp_ne (tgt := 53) X.1 X.2.1 dX9_manyIn_38 (by decide) (fun c6 => ?_) (fun c6 => ?_)
        · rw [if_neg c6] at h
          refine lv_aload_n X.1 X.2.1 dX9_manyIn_53 rfl (lv_at hl 1 rfl) ?_
          refine lv_iload X.1 X.2.1 dX9_manyIn_54 (lv_at hl 0 rfl) ?_
          obtain ⟨m8, r7, hr7, h⟩ := bw_some h
          refine r_cVi (As := [.int x_2]) (rest := []) X w lyM_0 rfl (kX9_isStaleAbove  l D ca ad mem x_2  hr7) (gTV tw_1182 tw_1184 tw_54 tw_75 tw_1185) hdX9_isStaleAbove (by decide) rfl hl.1 rfl (Nat.le_of_ble_eq_true rfl) dX9_manyIn_56 ⟨Nat.zero_le _, Nat.zero_le _⟩ (fun H locs w => ?_)
          refine lv_if_eq (tgt := 66) X.1 X.2.1 dX9_manyIn_59 (by decide) (fun c9 => ?_) (fun c9 => ?_)
          · rw [if_pos c9] at h
            refine lv_iconst (v := (0 : Int32)) X.1 X.2.1 dX9_manyIn_66 (by decide) ?_
            exact wX9_manyIn_b67 X M hk5 w (lv_sub hl [1, 2, 3, 4, 5] rfl) h
          · rw [if_neg c9] at h
            refine lv_iconst (v := (1 : Int32)) X.1 X.2.1 dX9_manyIn_62 (by decide) ?_
            refine lv_goto (tgt := 67) X.1 X.2.1 dX9_manyIn_63 (by decide) ?_
            exact wX9_manyIn_b67 X M hk5 w (lv_sub hl [1, 2, 3, 4, 5] rfl) h
        · rw [if_pos c6] at h
          refine lv_aload_n X.1 X.2.1 dX9_manyIn_41 rfl (lv_at hl 1 rfl) ?_
          refine lv_iload X.1 X.2.1 dX9_manyIn_42 (lv_at hl 0 rfl) ?_
          obtain ⟨m11, r10, hr10, h⟩ := bw_some h
          refine r_cVi (As := [.int x_2]) (rest := []) X w lyM_0 rfl (kX9_isStale  l D ca ad mem x_2  hr10) (gTV tw_1174 tw_1176 tw_53 tw_75 tw_1177) hdX9_isStale (by decide) rfl hl.1 rfl (Nat.le_of_ble_eq_true rfl) dX9_manyIn_44 ⟨Nat.zero_le _, Nat.zero_le _⟩ (fun H locs w => ?_)
          refine lv_if_eq (tgt := 66) X.1 X.2.1 dX9_manyIn_47 (by decide) (fun c12 => ?_) (fun c12 => ?_)
          · rw [if_pos c12] at h
            refine lv_iconst (v := (0 : Int32)) X.1 X.2.1 dX9_manyIn_66 (by decide) ?_
            exact wX9_manyIn_b67 X M hk5 w (lv_sub hl [1, 2, 3, 4, 5] rfl) h
          · rw [if_neg c12] at h
            refine lv_goto (tgt := 62) X.1 X.2.1 dX9_manyIn_50 (by decide) ?_
            refine lv_iconst (v := (1 : Int32)) X.1 X.2.1 dX9_manyIn_62 (by decide) ?_
            refine lv_goto (tgt := 67) X.1 X.2.1 dX9_manyIn_63 (by decide) ?_
            exact wX9_manyIn_b67 X M hk5 w (lv_sub hl [1, 2, 3, 4, 5] rfl) h
set_option maxRecDepth 100000 in
set_option maxHeartbeats 4000000 in
theorem wX9_manyIn_b5 {p : Program} {l : Launch} {e : Env} {s : State} {m : MethodId} {args : Array Value} {below : List Frame} {meth : Method} {c : Code} {D : va_G} {ca : Nat → ClassId} {ad : Nat → Nat}  {mem' : Mm} {r : Int32} (X : CallFix p m c cX9_manyIn 7 s args TT RX9) (M : Mt meth (some .int))  : ∀ (n : Nat) (mem : Mm) (x1 : Int32) (x2 : Int32) (x3 : Int32) (x4 : Int32) (H : Heap) (locs : List Loc) (ls : Array Slot)  (_ : Wd D ca ad layM (AA ad layM.length) s.heap s mem H locs) (_ : lv_has ls 7 [(0, .ref (ad 0)), (1, .int x1), (2, .int x2), (3, .int x3), (4, .int x4)]) (_ : fX9_manyIn_b5  n mem x1 x2 x3 x4 = some (mem', r)), W p l e (rmx 4 90) s m args below meth c H locs 0 0 (EndI D ca ad layM mem' r below args s) (F0 m 5 ls []) := by
  intro n
  induction n with
  | zero => intro mem x1 x2 x3 x4 H locs ls  w hl h; exact (nofun : (none : Option (Mm × Int32)) = _ → _) h
  | succ n ih => intro mem x1 x2 x3 x4 H locs ls  w hl h; exact wX9_manyIn_b5_s X M  ih  w hl h
def fX9_manyIn (mem : Mm) (a1 : Int32) (a2 : Int32) : Option (Mm × Int32) :=
  fX9_manyIn_b5 2000 mem a1 a2 (0 : Int32) (0 : Int32)
set_option maxRecDepth 100000 in
set_option maxHeartbeats 4000000 in
theorem kX9_manyIn (l : Launch) (D : va_G) (ca : Nat → ClassId) (ad : Nat → Nat) (mem : Mm) (a1 : Int32) (a2 : Int32)  {mem' : Mm} {r : Int32} (h : fX9_manyIn mem a1 a2 = some (mem', r)) : CtI l yX9_manyIn cX9_manyIn 7 (some .int) (rmx 4 90) D ca ad layM mem [.ref (ad 0), .int a1, .int a2] mem' r := by
  refine CtI.of (by decide) (Nat.le_of_ble_eq_true rfl) ?_
  intro p e s m args below meth c H locs ls X M w hl
  replace X : CallFix p m c cX9_manyIn 7 s args TT RX9 := X
  replace hl : lv_has ls 7 [(0, .ref (ad 0)), (1, .int a1), (2, .int a2)] := hl
  unfold fX9_manyIn at h
  refine lv_iconst (v := (0 : Int32)) X.1 X.2.1 dX9_manyIn_0 (by decide) ?_
  refine lv_istore_n (lv' := [(3, .int (0 : Int32)), (0, .ref (ad 0)), (1, .int a1), (2, .int a2)]) X.1 X.2.1 dX9_manyIn_1 rfl hl (by decide) rfl (fun ls hl => ?_)
  refine lv_iconst (v := (0 : Int32)) X.1 X.2.1 dX9_manyIn_2 (by decide) ?_
  refine lv_istore (lv' := [(4, .int (0 : Int32)), (3, .int (0 : Int32)), (0, .ref (ad 0)), (1, .int a1), (2, .int a2)]) X.1 X.2.1 dX9_manyIn_3 hl (by decide) rfl (fun ls hl => ?_)
  exact wX9_manyIn_b5 X M _ _ _ _ _ _ H locs ls w (lv_sub hl [2, 3, 4, 1, 0] rfl) h
/-! WalkHouseModel.marked(I)I (R) -/
theorem hdX9_marked : yX9_marked.cls = RX9 ∧ yX9_marked.cls ≠ "java/lang/invoke/MethodHandle" ∧ yX9_marked.cls ≠ "java/lang/invoke/VarHandle" ∧ (parseMethodDescriptor yX9_marked.desc).map (fun d => d.parameters.length) = some 1 := by decide +kernel
def fX9_marked_b4_s  (k4 : Mm → Int32 → Int32 → Int32 → Option Int32) (mem : Mm) (x1 : Int32) (x2 : Int32) (x3 : Int32) : Option Int32 :=
  if (96 : Int32) ≤ x3 then some x2 else gd ((96 : Int32) + x3) 345 (if ((mem 1 ((96 : Int32) + x3).toNatClampNeg) &&& x1) = 0 then lk (x2 + (0 : Int32)) (fun x_4 => k4 mem x1 x_4 (x3 + (1 : Int32))) else lk (x2 + (1 : Int32)) (fun x_5 => k4 mem x1 x_5 (x3 + (1 : Int32))))
def fX9_marked_b4  : Nat → Mm → Int32 → Int32 → Int32 → Option Int32
  | 0 => fun _ _ _ _ => none
  | n + 1 => fX9_marked_b4_s  (fX9_marked_b4  n)
set_option maxRecDepth 100000 in
set_option maxHeartbeats 4000000 in
theorem wX9_marked_b4_s {p : Program} {l : Launch} {e : Env} {s : State} {m : MethodId} {args : Array Value} {below : List Frame} {meth : Method} {c : Code} {D : va_G} {ca : Nat → ClassId} {ad : Nat → Nat} {H : Heap} {locs : List Loc} {ls : Array Slot} {mem : Mm} {x1 : Int32} {x2 : Int32} {x3 : Int32}  {k4 : Mm → Int32 → Int32 → Int32 → Option Int32} {r : Int32} (X : CallFix p m c cX9_marked 4 s args TT RX9) (M : Mt meth (some .int))  (hk4 : ∀ (x1 : Int32) (x2 : Int32) (x3 : Int32) (H : Heap) (locs : List Loc) (ls : Array Slot) , Wd D ca ad layM (AA ad layM.length) s.heap s mem H locs → lv_has ls 4 [(0, .ref (ad 0)), (1, .int x1), (2, .int x2), (3, .int x3)] → k4 mem x1 x2 x3 = some r → W p l e (rmx 0 0) s m args below meth c H locs 0 0 (EndI D ca ad layM mem r below args s) (F0 m 4 ls []))  (w : Wd D ca ad layM (AA ad layM.length) s.heap s mem H locs) (hl : lv_has ls 4 [(0, .ref (ad 0)), (1, .int x1), (2, .int x2), (3, .int x3)]) (h : fX9_marked_b4_s  k4 mem x1 x2 x3 = some r) : W p l e (rmx 0 0) s m args below meth c H locs 0 0 (EndI D ca ad layM mem r below args s) (F0 m 4 ls []) := by
  unfold fX9_marked_b4_s at h
  refine lv_iload_n X.1 X.2.1 dX9_marked_4 rfl (lv_at hl 3 rfl) ?_
  refine lv_bipush (v := (96 : Int32)) X.1 X.2.1 dX9_marked_5 (by decide) ?_
  refine lv_icmp_ge (tgt := 38) X.1 X.2.1 dX9_marked_7 (by decide) (fun c1 => ?_) (fun c1 => ?_)
  · rw [if_pos c1] at h
    refine lv_iload_n X.1 X.2.1 dX9_marked_38 rfl (lv_at hl 2 rfl) ?_
    obtain rfl := Option.some.inj h
    exact r_iret X M w dX9_marked_39
  · rw [if_neg c1] at h
    refine lv_iload_n X.1 X.2.1 dX9_marked_10 rfl (lv_at hl 2 rfl) ?_
    refine lv_aload_n X.1 X.2.1 dX9_marked_11 rfl (lv_at hl 0 rfl) ?_
    refine r_getr (b2 := 1) X w lyM_0 rfl inT9 1 rfl rfl (by decide) rfl tw_903 dX9_marked_12 ?_
    refine lv_bipush (v := (96 : Int32)) X.1 X.2.1 dX9_marked_15 (by decide) ?_
    refine lv_iload_n X.1 X.2.1 dX9_marked_17 rfl (lv_at hl 3 rfl) ?_
    refine lv_iadd X.1 X.2.1 dX9_marked_18 ?_
    obtain ⟨hi2, h⟩ := gd_some h
    refine r_iald X w lyM_1 hi2 dX9_marked_19 ?_
    refine lv_iload_n X.1 X.2.1 dX9_marked_20 rfl (lv_at hl 1 rfl) ?_
    refine lv_iand X.1 X.2.1 dX9_marked_21 ?_
    refine lv_if_eq (tgt := 29) X.1 X.2.1 dX9_marked_22 (by decide) (fun c3 => ?_) (fun c3 => ?_)
    · rw [if_pos c3] at h
      refine lv_iconst (v := (0 : Int32)) X.1 X.2.1 dX9_marked_29 (by decide) ?_
      refine lv_iadd X.1 X.2.1 dX9_marked_30 ?_
      obtain ⟨x_4, ex_4, h⟩ := lk_some h
      refine lv_name ex_4 ?_
      refine lv_istore_n (lv' := [(2, .int x_4), (0, .ref (ad 0)), (1, .int x1), (3, .int x3)]) X.1 X.2.1 dX9_marked_31 rfl hl (by decide) rfl (fun ls hl => ?_)
      refine lv_iinc (v := (x3 + (1 : Int32))) (lv' := [(3, .int (x3 + (1 : Int32))), (2, .int x_4), (0, .ref (ad 0)), (1, .int x1)]) X.1 X.2.1 dX9_marked_32 hl (k := 3) rfl rfl (by decide) rfl (fun ls hl => ?_)
      refine lv_goto (tgt := 4) X.1 X.2.1 dX9_marked_35 (by decide) ?_
      exact hk4 _ _ _ H locs ls w (lv_sub hl [2, 3, 1, 0] rfl) h
    · rw [if_neg c3] at h
      refine lv_iconst (v := (1 : Int32)) X.1 X.2.1 dX9_marked_25 (by decide) ?_
      refine lv_goto (tgt := 30) X.1 X.2.1 dX9_marked_26 (by decide) ?_
      refine lv_iadd X.1 X.2.1 dX9_marked_30 ?_
      obtain ⟨x_5, ex_5, h⟩ := lk_some h
      refine lv_name ex_5 ?_
      refine lv_istore_n (lv' := [(2, .int x_5), (0, .ref (ad 0)), (1, .int x1), (3, .int x3)]) X.1 X.2.1 dX9_marked_31 rfl hl (by decide) rfl (fun ls hl => ?_)
      refine lv_iinc (v := (x3 + (1 : Int32))) (lv' := [(3, .int (x3 + (1 : Int32))), (2, .int x_5), (0, .ref (ad 0)), (1, .int x1)]) X.1 X.2.1 dX9_marked_32 hl (k := 3) rfl rfl (by decide) rfl (fun ls hl => ?_)
      refine lv_goto (tgt := 4) X.1 X.2.1 dX9_marked_35 (by decide) ?_
      exact hk4 _ _ _ H locs ls w (lv_sub hl [2, 3, 1, 0] rfl) h
set_option maxRecDepth 100000 in
set_option maxHeartbeats 4000000 in
theorem wX9_marked_b4 {p : Program} {l : Launch} {e : Env} {s : State} {m : MethodId} {args : Array Value} {below : List Frame} {meth : Method} {c : Code} {D : va_G} {ca : Nat → ClassId} {ad : Nat → Nat} {mem : Mm}  {r : Int32} (X : CallFix p m c cX9_marked 4 s args TT RX9) (M : Mt meth (some .int))  : ∀ (n : Nat) (x1 : Int32) (x2 : Int32) (x3 : Int32) (H : Heap) (locs : List Loc) (ls : Array Slot)  (_ : Wd D ca ad layM (AA ad layM.length) s.heap s mem H locs) (_ : lv_has ls 4 [(0, .ref (ad 0)), (1, .int x1), (2, .int x2), (3, .int x3)]) (_ : fX9_marked_b4  n mem x1 x2 x3 = some r), W p l e (rmx 0 0) s m args below meth c H locs 0 0 (EndI D ca ad layM mem r below args s) (F0 m 4 ls []) := by
  intro n
  induction n with
  | zero => intro x1 x2 x3 H locs ls  w hl h; exact (nofun : (none : Option Int32) = _ → _) h
  | succ n ih => intro x1 x2 x3 H locs ls  w hl h; exact wX9_marked_b4_s X M  ih  w hl h
def fX9_marked (mem : Mm) (a1 : Int32) : Option Int32 :=
  fX9_marked_b4 2000 mem a1 (0 : Int32) (0 : Int32)
set_option maxRecDepth 100000 in
set_option maxHeartbeats 4000000 in
theorem kX9_marked (l : Launch) (D : va_G) (ca : Nat → ClassId) (ad : Nat → Nat) (mem : Mm) (a1 : Int32)  {r : Int32} (h : fX9_marked mem a1 = some r) : CtI l yX9_marked cX9_marked 4 (some .int) (rmx 0 0) D ca ad layM mem [.ref (ad 0), .int a1] mem r := by
  refine CtI.of (by decide) (Nat.le_of_ble_eq_true rfl) ?_
  intro p e s m args below meth c H locs ls X M w hl
  replace X : CallFix p m c cX9_marked 4 s args TT RX9 := X
  replace hl : lv_has ls 4 [(0, .ref (ad 0)), (1, .int a1)] := hl
  unfold fX9_marked at h
  refine lv_iconst (v := (0 : Int32)) X.1 X.2.1 dX9_marked_0 (by decide) ?_
  refine lv_istore_n (lv' := [(2, .int (0 : Int32)), (0, .ref (ad 0)), (1, .int a1)]) X.1 X.2.1 dX9_marked_1 rfl hl (by decide) rfl (fun ls hl => ?_)
  refine lv_iconst (v := (0 : Int32)) X.1 X.2.1 dX9_marked_2 (by decide) ?_
  refine lv_istore_n (lv' := [(3, .int (0 : Int32)), (2, .int (0 : Int32)), (0, .ref (ad 0)), (1, .int a1)]) X.1 X.2.1 dX9_marked_3 rfl hl (by decide) rfl (fun ls hl => ?_)
  exact wX9_marked_b4 X M _ _ _ _ H locs ls w (lv_sub hl [2, 3, 1, 0] rfl) h
/-! WalkHouseModel.count(I)I (W) -/
theorem hdX9_count : yX9_count.cls = RX9 ∧ yX9_count.cls ≠ "java/lang/invoke/MethodHandle" ∧ yX9_count.cls ≠ "java/lang/invoke/VarHandle" ∧ (parseMethodDescriptor yX9_count.desc).map (fun d => d.parameters.length) = some 1 := by decide +kernel
def fX9_count_b189_s  (k189 : Mm → Int32 → Int32 → Option (Mm × Int32)) (mem : Mm) (x2 : Int32) (x3 : Int32) : Option (Mm × Int32) :=
  if (4 : Int32) ≤ x3 then some (mem, x2) else bd (fX9_isGoing mem x3) (fun r2 => if r2 = 0 then lk (x2 + (0 : Int32)) (fun x_4 => k189 mem x_4 (x3 + (1 : Int32))) else lk (x2 + (1 : Int32)) (fun x_5 => k189 mem x_5 (x3 + (1 : Int32))))
def fX9_count_b189  : Nat → Mm → Int32 → Int32 → Option (Mm × Int32)
  | 0 => fun _ _ _ => none
  | n + 1 => fX9_count_b189_s  (fX9_count_b189  n)
set_option maxRecDepth 100000 in
set_option maxHeartbeats 4000000 in
theorem wX9_count_b189_s {p : Program} {l : Launch} {e : Env} {s : State} {m : MethodId} {args : Array Value} {below : List Frame} {meth : Method} {c : Code} {D : va_G} {ca : Nat → ClassId} {ad : Nat → Nat} {H : Heap} {locs : List Loc} {ls : Array Slot} {mem : Mm} {x2 : Int32} {x3 : Int32}  {k189 : Mm → Int32 → Int32 → Option (Mm × Int32)} {mem' : Mm} {r : Int32} (X : CallFix p m c cX9_count 4 s args TT RX9) (M : Mt meth (some .int))  (hk189 : ∀ (mem : Mm) (x2 : Int32) (x3 : Int32) (H : Heap) (locs : List Loc) (ls : Array Slot) , Wd D ca ad layM (AA ad layM.length) s.heap s mem H locs → lv_has ls 4 [(0, .ref (ad 0)), (2, .int x2), (3, .int x3)] → k189 mem x2 x3 = some (mem', r) → W p l e (rmx 5 116) s m args below meth c H locs 0 0 (EndI D ca ad layM mem' r below args s) (F0 m 189 ls []))  (w : Wd D ca ad layM (AA ad layM.length) s.heap s mem H locs) (hl : lv_has ls 4 [(0, .ref (ad 0)), (2, .int x2), (3, .int x3)]) (h : fX9_count_b189_s  k189 mem x2 x3 = some (mem', r)) : W p l e (rmx 5 116) s m args below meth c H locs 0 0 (EndI D ca ad layM mem' r below args s) (F0 m 189 ls []) := by
  unfold fX9_count_b189_s at h
  refine lv_iload_n X.1 X.2.1 dX9_count_189 rfl (lv_at hl 2 rfl) ?_
  refine lv_iconst (v := (4 : Int32)) X.1 X.2.1 dX9_count_190 (by decide) ?_
  refine lv_icmp_ge (tgt := 216) X.1 X.2.1 dX9_count_191 (by decide) (fun c1 => ?_) (fun c1 => ?_)
  · rw [if_pos c1] at h
    refine lv_iload_n X.1 X.2.1 dX9_count_216 rfl (lv_at hl 1 rfl) ?_
    obtain ⟨rfl, rfl⟩ := Prod.mk.inj (Option.some.inj h)
    exact r_iret X M w dX9_count_217
  · rw [if_neg c1] at h
    refine lv_iload_n X.1 X.2.1 dX9_count_194 rfl (lv_at hl 1 rfl) ?_
    refine lv_aload_n X.1 X.2.1 dX9_count_195 rfl (lv_at hl 0 rfl) ?_
    refine lv_iload_n X.1 X.2.1 dX9_count_196 rfl (lv_at hl 2 rfl) ?_
    obtain ⟨r2, hr2, h⟩ := bd_some h
    refine r_cVi (As := [.int x3]) (rest := [.int x2]) X w lyM_0 rfl (kX9_isGoing  l D ca ad mem x3  hr2) (gTV tw_1023 tw_1025 tw_31 tw_75 tw_1026) hdX9_isGoing (by decide) rfl hl.1 rfl (Nat.le_of_ble_eq_true rfl) dX9_count_197 ⟨Nat.zero_le _, Nat.zero_le _⟩ (fun H locs w => ?_)
    refine lv_if_eq (tgt := 207) X.1 X.2.1 dX9_count_200 (by decide) (fun c3 => ?_) (fun c3 => ?_)
    · rw [if_pos c3] at h
      refine lv_iconst (v := (0 : Int32)) X.1 X.2.1 dX9_count_207 (by decide) ?_
      refine lv_iadd X.1 X.2.1 dX9_count_208 ?_
      obtain ⟨x_4, ex_4, h⟩ := lk_some h
      refine lv_name ex_4 ?_
      refine lv_istore_n (lv' := [(2, .int x_4), (0, .ref (ad 0)), (3, .int x3)]) X.1 X.2.1 dX9_count_209 rfl hl (by decide) rfl (fun ls hl => ?_)
      refine lv_iinc (v := (x3 + (1 : Int32))) (lv' := [(3, .int (x3 + (1 : Int32))), (2, .int x_4), (0, .ref (ad 0))]) X.1 X.2.1 dX9_count_210 hl (k := 2) rfl rfl (by decide) rfl (fun ls hl => ?_)
      refine lv_goto (tgt := 189) X.1 X.2.1 dX9_count_213 (by decide) ?_
      exact hk189 _ _ _ H locs ls w (lv_sub hl [2, 1, 0] rfl) h
    · rw [if_neg c3] at h
      refine lv_iconst (v := (1 : Int32)) X.1 X.2.1 dX9_count_203 (by decide) ?_
      refine lv_goto (tgt := 208) X.1 X.2.1 dX9_count_204 (by decide) ?_
      refine lv_iadd X.1 X.2.1 dX9_count_208 ?_
      obtain ⟨x_5, ex_5, h⟩ := lk_some h
      refine lv_name ex_5 ?_
      refine lv_istore_n (lv' := [(2, .int x_5), (0, .ref (ad 0)), (3, .int x3)]) X.1 X.2.1 dX9_count_209 rfl hl (by decide) rfl (fun ls hl => ?_)
      refine lv_iinc (v := (x3 + (1 : Int32))) (lv' := [(3, .int (x3 + (1 : Int32))), (2, .int x_5), (0, .ref (ad 0))]) X.1 X.2.1 dX9_count_210 hl (k := 2) rfl rfl (by decide) rfl (fun ls hl => ?_)
      refine lv_goto (tgt := 189) X.1 X.2.1 dX9_count_213 (by decide) ?_
      exact hk189 _ _ _ H locs ls w (lv_sub hl [2, 1, 0] rfl) h
set_option maxRecDepth 100000 in
set_option maxHeartbeats 4000000 in
theorem wX9_count_b189 {p : Program} {l : Launch} {e : Env} {s : State} {m : MethodId} {args : Array Value} {below : List Frame} {meth : Method} {c : Code} {D : va_G} {ca : Nat → ClassId} {ad : Nat → Nat}  {mem' : Mm} {r : Int32} (X : CallFix p m c cX9_count 4 s args TT RX9) (M : Mt meth (some .int))  : ∀ (n : Nat) (mem : Mm) (x2 : Int32) (x3 : Int32) (H : Heap) (locs : List Loc) (ls : Array Slot)  (_ : Wd D ca ad layM (AA ad layM.length) s.heap s mem H locs) (_ : lv_has ls 4 [(0, .ref (ad 0)), (2, .int x2), (3, .int x3)]) (_ : fX9_count_b189  n mem x2 x3 = some (mem', r)), W p l e (rmx 5 116) s m args below meth c H locs 0 0 (EndI D ca ad layM mem' r below args s) (F0 m 189 ls []) := by
  intro n
  induction n with
  | zero => intro mem x2 x3 H locs ls  w hl h; exact (nofun : (none : Option (Mm × Int32)) = _ → _) h
  | succ n ih => intro mem x2 x3 H locs ls  w hl h; exact wX9_count_b189_s X M  ih  w hl h
def fX9_count (mem : Mm) (a1 : Int32) : Option (Mm × Int32) :=
  wk mem 0 0 (0 : Int32) (fun m1 => if a1 = (0 : Int32) then gd (344 : Int32) 345 (some (m1, (m1 1 (344 : Int32).toNatClampNeg))) else if a1 = (1 : Int32) then bw (fX9_manyIn m1 (192 : Int32) (0 : Int32)) (fun m6 r5 => some (m6, r5)) else if a1 = (2 : Int32) then bw (fX9_manyIn m1 (234 : Int32) (0 : Int32)) (fun m9 r8 => some (m9, r8)) else if a1 = (3 : Int32) then bw (fX9_manyIn m1 (192 : Int32) (1 : Int32)) (fun m12 r11 => some (m12, r11)) else if a1 = (4 : Int32) then bw (fX9_manyIn m1 (234 : Int32) (1 : Int32)) (fun m15 r14 => some (m15, r14)) else if a1 = (5 : Int32) then gd (321 : Int32) 345 (some (m1, (m1 1 (321 : Int32).toNatClampNeg))) else if a1 = (6 : Int32) then gd (322 : Int32) 345 (some (m1, (m1 1 (322 : Int32).toNatClampNeg))) else if a1 = (7 : Int32) then gd (323 : Int32) 345 (some (m1, (m1 1 (323 : Int32).toNatClampNeg))) else if a1 = (8 : Int32) then gd (324 : Int32) 345 (some (m1, (m1 1 (324 : Int32).toNatClampNeg))) else if a1 = (9 : Int32) then gd (325 : Int32) 345 (some (m1, (m1 1 (325 : Int32).toNatClampNeg))) else if a1 = (10 : Int32) then some (m1, (m1 0 6)) else if a1 = (11 : Int32) then bd (fX9_marked m1 (1 : Int32)) (fun r28 => some (m1, r28)) else if a1 = (12 : Int32) then bd (fX9_marked m1 (2 : Int32)) (fun r30 => some (m1, r30)) else if a1 = (13 : Int32) then fX9_count_b189 2000 m1 (0 : Int32) (0 : Int32) else some (m1, (-1 : Int32)))
set_option maxRecDepth 100000 in
set_option maxHeartbeats 4000000 in
theorem kX9_count (l : Launch) (D : va_G) (ca : Nat → ClassId) (ad : Nat → Nat) (mem : Mm) (a1 : Int32)  {mem' : Mm} {r : Int32} (h : fX9_count mem a1 = some (mem', r)) : CtI l yX9_count cX9_count 4 (some .int) (rmx 5 116) D ca ad layM mem [.ref (ad 0), .int a1] mem' r := by
  refine CtI.of (by decide) (Nat.le_of_ble_eq_true rfl) ?_
  intro p e s m args below meth c H locs ls X M w hl
  replace X : CallFix p m c cX9_count 4 s args TT RX9 := X
  replace hl : lv_has ls 4 [(0, .ref (ad 0)), (1, .int a1)] := hl
  unfold fX9_count at h
  refine lv_aload_n X.1 X.2.1 dX9_count_0 rfl (lv_at hl 0 rfl) ?_
  refine lv_iconst (v := (0 : Int32)) X.1 X.2.1 dX9_count_1 (by decide) ?_
  refine r_put X w lyM_0 rfl inT9 tyX9 tyX9_ok nmX9 0 rfl (by decide) rfl rfl tw_902 rfl rfl dX9_count_2 (fun H locs w => ?_)
  obtain ⟨m1, em1, h⟩ := wk_some h
  rw [em1] at w
  refine lv_iconst (v := (0 : Int32)) X.1 X.2.1 dX9_count_5 (by decide) ?_
  refine lv_istore_n (lv' := [(2, .int (0 : Int32)), (0, .ref (ad 0)), (1, .int a1)]) X.1 X.2.1 dX9_count_6 rfl hl (by decide) rfl (fun ls hl => ?_)
  refine lv_iload_n X.1 X.2.1 dX9_count_7 rfl (lv_at hl 2 rfl) ?_
  by_cases c2 : a1 = (0 : Int32)
  · rw [if_pos c2] at h
    refine lv_tableIn (tgt := 80) X.1 X.2.1 dX9_count_8 (by rw [c2]; decide) (by rw [c2]; decide) (by rw [c2]; rfl) (by decide) ?_
    refine lv_aload_n X.1 X.2.1 dX9_count_80 rfl (lv_at hl 1 rfl) ?_
    refine r_getr (b2 := 1) X w lyM_0 rfl inT9 1 rfl rfl (by decide) rfl tw_903 dX9_count_81 ?_
    refine lv_sipush (v := (344 : Int32)) X.1 X.2.1 dX9_count_84 (by decide) ?_
    obtain ⟨hi3, h⟩ := gd_some h
    refine r_iald X w lyM_1 hi3 dX9_count_87 ?_
    obtain ⟨rfl, rfl⟩ := Prod.mk.inj (Option.some.inj h)
    exact r_iret X M w dX9_count_88
  rw [if_neg c2] at h
  by_cases c4 : a1 = (1 : Int32)
  · rw [if_pos c4] at h
    refine lv_tableIn (tgt := 89) X.1 X.2.1 dX9_count_8 (by rw [c4]; decide) (by rw [c4]; decide) (by rw [c4]; rfl) (by decide) ?_
    refine lv_aload_n X.1 X.2.1 dX9_count_89 rfl (lv_at hl 1 rfl) ?_
    refine lv_sipush (v := (192 : Int32)) X.1 X.2.1 dX9_count_90 (by decide) ?_
    refine lv_iconst (v := (0 : Int32)) X.1 X.2.1 dX9_count_93 (by decide) ?_
    obtain ⟨m6, r5, hr5, h⟩ := bw_some h
    refine r_cVi (As := [.int (192 : Int32), .int (0 : Int32)]) (rest := []) X w lyM_0 rfl (kX9_manyIn  l D ca ad m1 (192 : Int32) (0 : Int32)  hr5) (gTV tw_1241 tw_1243 tw_62 tw_75 tw_1244) hdX9_manyIn (by decide) rfl hl.1 rfl (Nat.le_of_ble_eq_true rfl) dX9_count_94 ⟨Nat.zero_le _, Nat.zero_le _⟩ (fun H locs w => ?_)
    obtain ⟨rfl, rfl⟩ := Prod.mk.inj (Option.some.inj h)
    exact r_iret X M w dX9_count_97
  rw [if_neg c4] at h
  by_cases c7 : a1 = (2 : Int32)
  · rw [if_pos c7] at h
    refine lv_tableIn (tgt := 98) X.1 X.2.1 dX9_count_8 (by rw [c7]; decide) (by rw [c7]; decide) (by rw [c7]; rfl) (by decide) ?_
    refine lv_aload_n X.1 X.2.1 dX9_count_98 rfl (lv_at hl 1 rfl) ?_
    refine lv_sipush (v := (234 : Int32)) X.1 X.2.1 dX9_count_99 (by decide) ?_
    refine lv_iconst (v := (0 : Int32)) X.1 X.2.1 dX9_count_102 (by decide) ?_
    obtain ⟨m9, r8, hr8, h⟩ := bw_some h
    refine r_cVi (As := [.int (234 : Int32), .int (0 : Int32)]) (rest := []) X w lyM_0 rfl (kX9_manyIn  l D ca ad m1 (234 : Int32) (0 : Int32)  hr8) (gTV tw_1241 tw_1243 tw_62 tw_75 tw_1244) hdX9_manyIn (by decide) rfl hl.1 rfl (Nat.le_of_ble_eq_true rfl) dX9_count_103 ⟨Nat.zero_le _, Nat.zero_le _⟩ (fun H locs w => ?_)
    obtain ⟨rfl, rfl⟩ := Prod.mk.inj (Option.some.inj h)
    exact r_iret X M w dX9_count_106
  rw [if_neg c7] at h
  by_cases c10 : a1 = (3 : Int32)
  · rw [if_pos c10] at h
    refine lv_tableIn (tgt := 107) X.1 X.2.1 dX9_count_8 (by rw [c10]; decide) (by rw [c10]; decide) (by rw [c10]; rfl) (by decide) ?_
    refine lv_aload_n X.1 X.2.1 dX9_count_107 rfl (lv_at hl 1 rfl) ?_
    refine lv_sipush (v := (192 : Int32)) X.1 X.2.1 dX9_count_108 (by decide) ?_
    refine lv_iconst (v := (1 : Int32)) X.1 X.2.1 dX9_count_111 (by decide) ?_
    obtain ⟨m12, r11, hr11, h⟩ := bw_some h
    refine r_cVi (As := [.int (192 : Int32), .int (1 : Int32)]) (rest := []) X w lyM_0 rfl (kX9_manyIn  l D ca ad m1 (192 : Int32) (1 : Int32)  hr11) (gTV tw_1241 tw_1243 tw_62 tw_75 tw_1244) hdX9_manyIn (by decide) rfl hl.1 rfl (Nat.le_of_ble_eq_true rfl) dX9_count_112 ⟨Nat.zero_le _, Nat.zero_le _⟩ (fun H locs w => ?_)
    obtain ⟨rfl, rfl⟩ := Prod.mk.inj (Option.some.inj h)
    exact r_iret X M w dX9_count_115
  rw [if_neg c10] at h
  by_cases c13 : a1 = (4 : Int32)
  · rw [if_pos c13] at h
    refine lv_tableIn (tgt := 116) X.1 X.2.1 dX9_count_8 (by rw [c13]; decide) (by rw [c13]; decide) (by rw [c13]; rfl) (by decide) ?_
    refine lv_aload_n X.1 X.2.1 dX9_count_116 rfl (lv_at hl 1 rfl) ?_
    refine lv_sipush (v := (234 : Int32)) X.1 X.2.1 dX9_count_117 (by decide) ?_
    refine lv_iconst (v := (1 : Int32)) X.1 X.2.1 dX9_count_120 (by decide) ?_
    obtain ⟨m15, r14, hr14, h⟩ := bw_some h
    refine r_cVi (As := [.int (234 : Int32), .int (1 : Int32)]) (rest := []) X w lyM_0 rfl (kX9_manyIn  l D ca ad m1 (234 : Int32) (1 : Int32)  hr14) (gTV tw_1241 tw_1243 tw_62 tw_75 tw_1244) hdX9_manyIn (by decide) rfl hl.1 rfl (Nat.le_of_ble_eq_true rfl) dX9_count_121 ⟨Nat.zero_le _, Nat.zero_le _⟩ (fun H locs w => ?_)
    obtain ⟨rfl, rfl⟩ := Prod.mk.inj (Option.some.inj h)
    exact r_iret X M w dX9_count_124
  rw [if_neg c13] at h
  by_cases c16 : a1 = (5 : Int32)
  · rw [if_pos c16] at h
    refine lv_tableIn (tgt := 125) X.1 X.2.1 dX9_count_8 (by rw [c16]; decide) (by rw [c16]; decide) (by rw [c16]; rfl) (by decide) ?_
    refine lv_aload_n X.1 X.2.1 dX9_count_125 rfl (lv_at hl 1 rfl) ?_
    refine r_getr (b2 := 1) X w lyM_0 rfl inT9 1 rfl rfl (by decide) rfl tw_903 dX9_count_126 ?_
    refine lv_sipush (v := (321 : Int32)) X.1 X.2.1 dX9_count_129 (by decide) ?_
    obtain ⟨hi17, h⟩ := gd_some h
    refine r_iald X w lyM_1 hi17 dX9_count_132 ?_
    obtain ⟨rfl, rfl⟩ := Prod.mk.inj (Option.some.inj h)
    exact r_iret X M w dX9_count_133
  rw [if_neg c16] at h
  by_cases c18 : a1 = (6 : Int32)
  · rw [if_pos c18] at h
    refine lv_tableIn (tgt := 134) X.1 X.2.1 dX9_count_8 (by rw [c18]; decide) (by rw [c18]; decide) (by rw [c18]; rfl) (by decide) ?_
    refine lv_aload_n X.1 X.2.1 dX9_count_134 rfl (lv_at hl 1 rfl) ?_
    refine r_getr (b2 := 1) X w lyM_0 rfl inT9 1 rfl rfl (by decide) rfl tw_903 dX9_count_135 ?_
    refine lv_sipush (v := (322 : Int32)) X.1 X.2.1 dX9_count_138 (by decide) ?_
    obtain ⟨hi19, h⟩ := gd_some h
    refine r_iald X w lyM_1 hi19 dX9_count_141 ?_
    obtain ⟨rfl, rfl⟩ := Prod.mk.inj (Option.some.inj h)
    exact r_iret X M w dX9_count_142
  rw [if_neg c18] at h
  by_cases c20 : a1 = (7 : Int32)
  · rw [if_pos c20] at h
    refine lv_tableIn (tgt := 143) X.1 X.2.1 dX9_count_8 (by rw [c20]; decide) (by rw [c20]; decide) (by rw [c20]; rfl) (by decide) ?_
    refine lv_aload_n X.1 X.2.1 dX9_count_143 rfl (lv_at hl 1 rfl) ?_
    refine r_getr (b2 := 1) X w lyM_0 rfl inT9 1 rfl rfl (by decide) rfl tw_903 dX9_count_144 ?_
    refine lv_sipush (v := (323 : Int32)) X.1 X.2.1 dX9_count_147 (by decide) ?_
    obtain ⟨hi21, h⟩ := gd_some h
    refine r_iald X w lyM_1 hi21 dX9_count_150 ?_
    obtain ⟨rfl, rfl⟩ := Prod.mk.inj (Option.some.inj h)
    exact r_iret X M w dX9_count_151
  rw [if_neg c20] at h
  by_cases c22 : a1 = (8 : Int32)
  · rw [if_pos c22] at h
    refine lv_tableIn (tgt := 152) X.1 X.2.1 dX9_count_8 (by rw [c22]; decide) (by rw [c22]; decide) (by rw [c22]; rfl) (by decide) ?_
    refine lv_aload_n X.1 X.2.1 dX9_count_152 rfl (lv_at hl 1 rfl) ?_
    refine r_getr (b2 := 1) X w lyM_0 rfl inT9 1 rfl rfl (by decide) rfl tw_903 dX9_count_153 ?_
    refine lv_sipush (v := (324 : Int32)) X.1 X.2.1 dX9_count_156 (by decide) ?_
    obtain ⟨hi23, h⟩ := gd_some h
    refine r_iald X w lyM_1 hi23 dX9_count_159 ?_
    obtain ⟨rfl, rfl⟩ := Prod.mk.inj (Option.some.inj h)
    exact r_iret X M w dX9_count_160
  rw [if_neg c22] at h
  by_cases c24 : a1 = (9 : Int32)
  · rw [if_pos c24] at h
    refine lv_tableIn (tgt := 161) X.1 X.2.1 dX9_count_8 (by rw [c24]; decide) (by rw [c24]; decide) (by rw [c24]; rfl) (by decide) ?_
    refine lv_aload_n X.1 X.2.1 dX9_count_161 rfl (lv_at hl 1 rfl) ?_
    refine r_getr (b2 := 1) X w lyM_0 rfl inT9 1 rfl rfl (by decide) rfl tw_903 dX9_count_162 ?_
    refine lv_sipush (v := (325 : Int32)) X.1 X.2.1 dX9_count_165 (by decide) ?_
    obtain ⟨hi25, h⟩ := gd_some h
    refine r_iald X w lyM_1 hi25 dX9_count_168 ?_
    obtain ⟨rfl, rfl⟩ := Prod.mk.inj (Option.some.inj h)
    exact r_iret X M w dX9_count_169
  rw [if_neg c24] at h
  by_cases c26 : a1 = (10 : Int32)
  · rw [if_pos c26] at h
    refine lv_tableIn (tgt := 170) X.1 X.2.1 dX9_count_8 (by rw [c26]; decide) (by rw [c26]; decide) (by rw [c26]; rfl) (by decide) ?_
    refine lv_aload_n X.1 X.2.1 dX9_count_170 rfl (lv_at hl 1 rfl) ?_
    refine r_get X w lyM_0 rfl inT9 6 rfl (by decide) rfl tw_908 dX9_count_171 ?_
    obtain ⟨rfl, rfl⟩ := Prod.mk.inj (Option.some.inj h)
    exact r_iret X M w dX9_count_174
  rw [if_neg c26] at h
  by_cases c27 : a1 = (11 : Int32)
  · rw [if_pos c27] at h
    refine lv_tableIn (tgt := 175) X.1 X.2.1 dX9_count_8 (by rw [c27]; decide) (by rw [c27]; decide) (by rw [c27]; rfl) (by decide) ?_
    refine lv_aload_n X.1 X.2.1 dX9_count_175 rfl (lv_at hl 1 rfl) ?_
    refine lv_iconst (v := (1 : Int32)) X.1 X.2.1 dX9_count_176 (by decide) ?_
    obtain ⟨r28, hr28, h⟩ := bd_some h
    refine r_cVi (As := [.int (1 : Int32)]) (rest := []) X w lyM_0 rfl (kX9_marked  l D ca ad m1 (1 : Int32)  hr28) (gTV tw_1245 tw_1247 tw_63 tw_75 tw_1248) hdX9_marked (by decide) rfl hl.1 rfl (Nat.le_of_ble_eq_true rfl) dX9_count_177 ⟨Nat.zero_le _, Nat.zero_le _⟩ (fun H locs w => ?_)
    obtain ⟨rfl, rfl⟩ := Prod.mk.inj (Option.some.inj h)
    exact r_iret X M w dX9_count_180
  rw [if_neg c27] at h
  by_cases c29 : a1 = (12 : Int32)
  · rw [if_pos c29] at h
    refine lv_tableIn (tgt := 181) X.1 X.2.1 dX9_count_8 (by rw [c29]; decide) (by rw [c29]; decide) (by rw [c29]; rfl) (by decide) ?_
    refine lv_aload_n X.1 X.2.1 dX9_count_181 rfl (lv_at hl 1 rfl) ?_
    refine lv_iconst (v := (2 : Int32)) X.1 X.2.1 dX9_count_182 (by decide) ?_
    obtain ⟨r30, hr30, h⟩ := bd_some h
    refine r_cVi (As := [.int (2 : Int32)]) (rest := []) X w lyM_0 rfl (kX9_marked  l D ca ad m1 (2 : Int32)  hr30) (gTV tw_1245 tw_1247 tw_63 tw_75 tw_1248) hdX9_marked (by decide) rfl hl.1 rfl (Nat.le_of_ble_eq_true rfl) dX9_count_183 ⟨Nat.zero_le _, Nat.zero_le _⟩ (fun H locs w => ?_)
    obtain ⟨rfl, rfl⟩ := Prod.mk.inj (Option.some.inj h)
    exact r_iret X M w dX9_count_186
  rw [if_neg c29] at h
  by_cases c31 : a1 = (13 : Int32)
  · rw [if_pos c31] at h
    refine lv_tableIn (tgt := 187) X.1 X.2.1 dX9_count_8 (by rw [c31]; decide) (by rw [c31]; decide) (by rw [c31]; rfl) (by decide) ?_
    refine lv_iconst (v := (0 : Int32)) X.1 X.2.1 dX9_count_187 (by decide) ?_
    refine lv_istore_n (lv' := [(3, .int (0 : Int32)), (2, .int (0 : Int32)), (0, .ref (ad 0)), (1, .int a1)]) X.1 X.2.1 dX9_count_188 rfl hl (by decide) rfl (fun ls hl => ?_)
    exact wX9_count_b189 X M _ _ _ _ H locs ls w (lv_sub hl [2, 1, 0] rfl) h
  rw [if_neg c31] at h
  refine lv_tableOut (tgt := 218) X.1 X.2.1 dX9_count_8 (sw_out 0 13 [(0 : Int32), (1 : Int32), (2 : Int32), (3 : Int32), (4 : Int32), (5 : Int32), (6 : Int32), (7 : Int32), (8 : Int32), (9 : Int32), (10 : Int32), (11 : Int32), (12 : Int32), (13 : Int32)] (fun z h1 h2 => by rcases (show z = 0 ∨ z = 1 ∨ z = 2 ∨ z = 3 ∨ z = 4 ∨ z = 5 ∨ z = 6 ∨ z = 7 ∨ z = 8 ∨ z = 9 ∨ z = 10 ∨ z = 11 ∨ z = 12 ∨ z = 13 by omega) with rfl | rfl | rfl | rfl | rfl | rfl | rfl | rfl | rfl | rfl | rfl | rfl | rfl | rfl <;> decide) (by simp only [List.mem_cons, List.not_mem_nil, or_false, forall_eq_or_imp, forall_eq]; exact ⟨c2, c4, c7, c10, c13, c16, c18, c20, c22, c24, c26, c27, c29, c31⟩)) (by decide) ?_
  refine lv_iconst (v := (-1 : Int32)) X.1 X.2.1 dX9_count_218 (by decide) ?_
  obtain ⟨rfl, rfl⟩ := Prod.mk.inj (Option.some.inj h)
  exact r_iret X M w dX9_count_219
