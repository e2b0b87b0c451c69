/-! WalkHouseModel.thrown()I (R) -/
theorem hdX9_thrown : yX9_thrown.cls = RX9 ∧ yX9_thrown.cls ≠ "java/lang/invoke/MethodHandle" ∧ yX9_thrown.cls ≠ "java/lang/invoke/VarHandle" ∧ (parseMethodDescriptor yX9_thrown.desc).map (fun d => d.parameters.length) = some 0 := by decide +kernel
def fX9_thrown (mem : Mm)  : Option Int32 :=
  some (mem 0 0)
set_option maxRecDepth 100000 in
set_option maxHeartbeats 4000000 in
theorem kX9_thrown (l : Launch) (D : va_G) (ca : Nat → ClassId) (ad : Nat → Nat) (mem : Mm)   {r : Int32} (h : fX9_thrown mem  = some r) : CtI l yX9_thrown cX9_thrown 1 (some .int) (rmx 0 0) D ca ad layM mem [.ref (ad 0)] mem r := by
  refine CtI.of (by decide) (Nat.le_of_ble_eq_true rfl) ?_
  intro p e s m args below meth c H locs ls X M w hl
  replace X : CallFix p m c cX9_thrown 1 s args TT RX9 := X
  replace hl : lv_has ls 1 [(0, .ref (ad 0))] := hl
  unfold fX9_thrown at h
  refine lv_aload_n X.1 X.2.1 dX9_thrown_0 rfl (lv_at hl 0 rfl) ?_
  refine r_get X w lyM_0 rfl inT9 0 rfl (by decide) rfl tw_902 dX9_thrown_1 ?_
  obtain rfl := Option.some.inj h
  exact r_iret X M w dX9_thrown_4
/-! WalkHouseModel.within(III)Z (T) -/
theorem hdX9_within : yX9_within.cls ≠ "java/lang/invoke/MethodHandle" ∧ yX9_within.cls ≠ "java/lang/invoke/VarHandle" ∧ (parseMethodDescriptor yX9_within.desc).map (fun d => d.parameters.length) = some 3 := by decide +kernel
def fX9_within (a0 : Int32) (a1 : Int32) (a2 : Int32) : Int32 :=
  if a0 < a1 then (0 : Int32) else if a2 < a0 then (0 : Int32) else (1 : Int32)
set_option maxRecDepth 100000 in
set_option maxHeartbeats 4000000 in
theorem kX9_within (l : Launch) (D : va_G) (ca : Nat → ClassId) (ad : Nat → Nat) (mem : Mm) (a0 : Int32) (a1 : Int32) (a2 : Int32)  {r : Int32} (h : fX9_within a0 a1 a2 = r) : CtI l yX9_within cX9_within 3 (some .boolean) (rmx 0 0) D ca ad layM mem [.int a0, .int a1, .int a2] mem r := by
  refine CtI.of (by decide) (Nat.le_of_ble_eq_true rfl) ?_
  intro p e s m args below meth c H locs ls X M w hl
  replace X : CallFix p m c cX9_within 3 s args TT RX9 := X
  replace hl : lv_has ls 3 [(0, .int a0), (1, .int a1), (2, .int a2)] := hl
  unfold fX9_within at h
  refine lv_iload_n X.1 X.2.1 dX9_within_0 rfl (lv_at hl 0 rfl) ?_
  refine lv_iload_n X.1 X.2.1 dX9_within_1 rfl (lv_at hl 1 rfl) ?_
  refine lv_icmp_lt (tgt := 14) X.1 X.2.1 dX9_within_2 (by decide) (fun c1 => ?_) (fun c1 => ?_)
  · rw [if_pos c1] at h
    refine lv_iconst (v := (0 : Int32)) X.1 X.2.1 dX9_within_14 (by decide) ?_
    subst h
    exact r_zret X M w (by decide) dX9_within_15
  · rw [if_neg c1] at h
    refine lv_iload_n X.1 X.2.1 dX9_within_5 rfl (lv_at hl 0 rfl) ?_
    refine lv_iload_n X.1 X.2.1 dX9_within_6 rfl (lv_at hl 2 rfl) ?_
    refine lv_icmp_gt (tgt := 14) X.1 X.2.1 dX9_within_7 (by decide) (fun c2 => ?_) (fun c2 => ?_)
    · rw [if_pos c2] at h
      refine lv_iconst (v := (0 : Int32)) X.1 X.2.1 dX9_within_14 (by decide) ?_
      subst h
      exact r_zret X M w (by decide) dX9_within_15
    · rw [if_neg c2] at h
      refine lv_iconst (v := (1 : Int32)) X.1 X.2.1 dX9_within_10 (by decide) ?_
      refine lv_goto (tgt := 15) X.1 X.2.1 dX9_within_11 (by decide) ?_
      subst h
      exact r_zret X M w (by decide) dX9_within_15
theorem zX9_within (a0 : Int32) (a1 : Int32) (a2 : Int32) : fX9_within a0 a1 a2 &&& 1 = fX9_within a0 a1 a2 := by
  unfold fX9_within; (repeat' split) <;> (repeat' split) <;> first | decide
/-! WalkHouseModel.isEntry(II)Z (T) -/
theorem hdX9_isEntry : yX9_isEntry.cls ≠ "java/lang/invoke/MethodHandle" ∧ yX9_isEntry.cls ≠ "java/lang/invoke/VarHandle" ∧ (parseMethodDescriptor yX9_isEntry.desc).map (fun d => d.parameters.length) = some 2 := by decide +kernel
def fX9_isEntry (a0 : Int32) (a1 : Int32) : Int32 :=
  if (fX9_within a0 (0 : Int32) (11 : Int32)) = 0 then (0 : Int32) else if (fX9_within a1 (0 : Int32) (7 : Int32)) = 0 then (0 : Int32) else (1 : Int32)
set_option maxRecDepth 100000 in
set_option maxHeartbeats 4000000 in
theorem kX9_isEntry (l : Launch) (D : va_G) (ca : Nat → ClassId) (ad : Nat → Nat) (mem : Mm) (a0 : Int32) (a1 : Int32)  {r : Int32} (h : fX9_isEntry a0 a1 = r) : CtI l yX9_isEntry cX9_isEntry 2 (some .boolean) (rmx 1 22) D ca ad layM mem [.int a0, .int a1] mem r := by
  refine CtI.of (by decide) (Nat.le_of_ble_eq_true rfl) ?_
  intro p e s m args below meth c H locs ls X M w hl
  replace X : CallFix p m c cX9_isEntry 2 s args TT RX9 := X
  replace hl : lv_has ls 2 [(0, .int a0), (1, .int a1)] := hl
  unfold fX9_isEntry at h
  refine lv_iload_n X.1 X.2.1 dX9_isEntry_0 rfl (lv_at hl 0 rfl) ?_
  refine lv_iconst (v := (0 : Int32)) X.1 X.2.1 dX9_isEntry_1 (by decide) ?_
  refine lv_bipush (v := (11 : Int32)) X.1 X.2.1 dX9_isEntry_2 (by decide) ?_
  refine r_cSi (As := [.int a0, .int (0 : Int32), .int (11 : Int32)]) (rest := []) X w (kX9_within  l D ca ad mem a0 (0 : Int32) (11 : Int32)  rfl) (gTS tw_983 tw_984 tw_75 tw_985) hdX9_within (by decide) rfl hl.1 rfl (Nat.le_of_ble_eq_true rfl) dX9_isEntry_4 ⟨Nat.zero_le _, Nat.zero_le _⟩ (fun H locs w => ?_)
  refine lv_if_eq (tgt := 24) X.1 X.2.1 dX9_isEntry_7 (by decide) (fun c1 => ?_) (fun c1 => ?_)
  · rw [if_pos c1] at h
    refine lv_iconst (v := (0 : Int32)) X.1 X.2.1 dX9_isEntry_24 (by decide) ?_
    subst h
    exact r_zret X M w (by decide) dX9_isEntry_25
  · rw [if_neg c1] at h
    refine lv_iload_n X.1 X.2.1 dX9_isEntry_10 rfl (lv_at hl 1 rfl) ?_
    refine lv_iconst (v := (0 : Int32)) X.1 X.2.1 dX9_isEntry_11 (by decide) ?_
    refine lv_bipush (v := (7 : Int32)) X.1 X.2.1 dX9_isEntry_12 (by decide) ?_
    refine r_cSi (As := [.int a1, .int (0 : Int32), .int (7 : Int32)]) (rest := []) X w (kX9_within  l D ca ad mem a1 (0 : Int32) (7 : Int32)  rfl) (gTS tw_983 tw_984 tw_75 tw_985) hdX9_within (by decide) rfl hl.1 rfl (Nat.le_of_ble_eq_true rfl) dX9_isEntry_14 ⟨Nat.zero_le _, Nat.zero_le _⟩ (fun H locs w => ?_)
    refine lv_if_eq (tgt := 24) X.1 X.2.1 dX9_isEntry_17 (by decide) (fun c2 => ?_) (fun c2 => ?_)
    · rw [if_pos c2] at h
      refine lv_iconst (v := (0 : Int32)) X.1 X.2.1 dX9_isEntry_24 (by decide) ?_
      subst h
      exact r_zret X M w (by decide) dX9_isEntry_25
    · rw [if_neg c2] at h
      refine lv_iconst (v := (1 : Int32)) X.1 X.2.1 dX9_isEntry_20 (by decide) ?_
      refine lv_goto (tgt := 25) X.1 X.2.1 dX9_isEntry_21 (by decide) ?_
      subst h
      exact r_zret X M w (by decide) dX9_isEntry_25
theorem zX9_isEntry (a0 : Int32) (a1 : Int32) : fX9_isEntry a0 a1 &&& 1 = fX9_isEntry a0 a1 := by
  unfold fX9_isEntry; (repeat' split) <;> (repeat' split) <;> first | decide | exact zX9_within _ _ _
/-! WalkHouseModel.isSpace(I)Z (T) -/
theorem hdX9_isSpace : yX9_isSpace.cls ≠ "java/lang/invoke/MethodHandle" ∧ yX9_isSpace.cls ≠ "java/lang/invoke/VarHandle" ∧ (parseMethodDescriptor yX9_isSpace.desc).map (fun d => d.parameters.length) = some 1 := by decide +kernel
def fX9_isSpace (a0 : Int32) : Int32 :=
  (fX9_within a0 (0 : Int32) (5 : Int32))
set_option maxRecDepth 100000 in
set_option maxHeartbeats 4000000 in
theorem kX9_isSpace (l : Launch) (D : va_G) (ca : Nat → ClassId) (ad : Nat → Nat) (mem : Mm) (a0 : Int32)  {r : Int32} (h : fX9_isSpace a0 = r) : CtI l yX9_isSpace cX9_isSpace 1 (some .boolean) (rmx 1 22) D ca ad layM mem [.int a0] mem r := by
  refine CtI.of (by decide) (Nat.le_of_ble_eq_true rfl) ?_
  intro p e s m args below meth c H locs ls X M w hl
  replace X : CallFix p m c cX9_isSpace 1 s args TT RX9 := X
  replace hl : lv_has ls 1 [(0, .int a0)] := hl
  unfold fX9_isSpace at h
  refine lv_iload_n X.1 X.2.1 dX9_isSpace_0 rfl (lv_at hl 0 rfl) ?_
  refine lv_iconst (v := (0 : Int32)) X.1 X.2.1 dX9_isSpace_1 (by decide) ?_
  refine lv_iconst (v := (5 : Int32)) X.1 X.2.1 dX9_isSpace_2 (by decide) ?_
  refine r_cSi (As := [.int a0, .int (0 : Int32), .int (5 : Int32)]) (rest := []) X w (kX9_within  l D ca ad mem a0 (0 : Int32) (5 : Int32)  rfl) (gTS tw_983 tw_984 tw_75 tw_985) hdX9_within (by decide) rfl hl.1 rfl (Nat.le_of_ble_eq_true rfl) dX9_isSpace_3 ⟨Nat.zero_le _, Nat.zero_le _⟩ (fun H locs w => ?_)
  subst h
  exact r_zret X M w (zX9_within _ _ _) dX9_isSpace_6
theorem zX9_isSpace (a0 : Int32) : fX9_isSpace a0 &&& 1 = fX9_isSpace a0 := by
  unfold fX9_isSpace; (repeat' split) <;> (repeat' split) <;> first | decide | exact zX9_within _ _ _
/-! WalkHouseModel.isAddress(I)Z (T) -/
theorem hdX9_isAddress : yX9_isAddress.cls ≠ "java/lang/invoke/MethodHandle" ∧ yX9_isAddress.cls ≠ "java/lang/invoke/VarHandle" ∧ (parseMethodDescriptor yX9_isAddress.desc).map (fun d => d.parameters.length) = some 1 := by decide +kernel
def fX9_isAddress (a0 : Int32) : Int32 :=
  (fX9_within a0 (0 : Int32) (511 : Int32))
set_option maxRecDepth 100000 in
set_option maxHeartbeats 4000000 in
theorem kX9_isAddress (l : Launch) (D : va_G) (ca : Nat → ClassId) (ad : Nat → Nat) (mem : Mm) (a0 : Int32)  {r : Int32} (h : fX9_isAddress a0 = r) : CtI l yX9_isAddress cX9_isAddress 1 (some .boolean) (rmx 1 22) D ca ad layM mem [.int a0] mem r := by
  refine CtI.of (by decide) (Nat.le_of_ble_eq_true rfl) ?_
  intro p e s m args below meth c H locs ls X M w hl
  replace X : CallFix p m c cX9_isAddress 1 s args TT RX9 := X
  replace hl : lv_has ls 1 [(0, .int a0)] := hl
  unfold fX9_isAddress at h
  refine lv_iload_n X.1 X.2.1 dX9_isAddress_0 rfl (lv_at hl 0 rfl) ?_
  refine lv_iconst (v := (0 : Int32)) X.1 X.2.1 dX9_isAddress_1 (by decide) ?_
  refine lv_sipush (v := (511 : Int32)) X.1 X.2.1 dX9_isAddress_2 (by decide) ?_
  refine r_cSi (As := [.int a0, .int (0 : Int32), .int (511 : Int32)]) (rest := []) X w (kX9_within  l D ca ad mem a0 (0 : Int32) (511 : Int32)  rfl) (gTS tw_983 tw_984 tw_75 tw_985) hdX9_within (by decide) rfl hl.1 rfl (Nat.le_of_ble_eq_true rfl) dX9_isAddress_5 ⟨Nat.zero_le _, Nat.zero_le _⟩ (fun H locs w => ?_)
  subst h
  exact r_zret X M w (zX9_within _ _ _) dX9_isAddress_8
theorem zX9_isAddress (a0 : Int32) : fX9_isAddress a0 &&& 1 = fX9_isAddress a0 := by
  unfold fX9_isAddress; (repeat' split) <;> (repeat' split) <;> first | decide | exact zX9_within _ _ _
/-! WalkHouseModel.whatOf(I)I (T) -/
theorem hdX9_whatOf : yX9_whatOf.cls ≠ "java/lang/invoke/MethodHandle" ∧ yX9_whatOf.cls ≠ "java/lang/invoke/VarHandle" ∧ (parseMethodDescriptor yX9_whatOf.desc).map (fun d => d.parameters.length) = some 1 := by decide +kernel
def fX9_whatOf (a0 : Int32) : Int32 :=
  (a0 &&& (3 : Int32))
set_option maxRecDepth 100000 in
set_option maxHeartbeats 4000000 in
theorem kX9_whatOf (l : Launch) (D : va_G) (ca : Nat → ClassId) (ad : Nat → Nat) (mem : Mm) (a0 : Int32)  {r : Int32} (h : fX9_whatOf a0 = r) : CtI l yX9_whatOf cX9_whatOf 1 (some .int) (rmx 0 0) D ca ad layM mem [.int a0] mem r := by
  refine CtI.of (by decide) (Nat.le_of_ble_eq_true rfl) ?_
  intro p e s m args below meth c H locs ls X M w hl
  replace X : CallFix p m c cX9_whatOf 1 s args TT RX9 := X
  replace hl : lv_has ls 1 [(0, .int a0)] := hl
  unfold fX9_whatOf at h
  refine lv_iload_n X.1 X.2.1 dX9_whatOf_0 rfl (lv_at hl 0 rfl) ?_
  refine lv_iconst (v := (3 : Int32)) X.1 X.2.1 dX9_whatOf_1 (by decide) ?_
  refine lv_iand X.1 X.2.1 dX9_whatOf_2 ?_
  subst h
  exact r_iret X M w dX9_whatOf_3
/-! WalkHouseModel.rightsOf(I)I (T) -/
theorem hdX9_rightsOf : yX9_rightsOf.cls ≠ "java/lang/invoke/MethodHandle" ∧ yX9_rightsOf.cls ≠ "java/lang/invoke/VarHandle" ∧ (parseMethodDescriptor yX9_rightsOf.desc).map (fun d => d.parameters.length) = some 1 := by decide +kernel
def fX9_rightsOf (a0 : Int32) : Int32 :=
  ((a0 >>> ((2 : Int32) &&& 31)) &&& (15 : Int32))
set_option maxRecDepth 100000 in
set_option maxHeartbeats 4000000 in
theorem kX9_rightsOf (l : Launch) (D : va_G) (ca : Nat → ClassId) (ad : Nat → Nat) (mem : Mm) (a0 : Int32)  {r : Int32} (h : fX9_rightsOf a0 = r) : CtI l yX9_rightsOf cX9_rightsOf 1 (some .int) (rmx 0 0) D ca ad layM mem [.int a0] mem r := by
  refine CtI.of (by decide) (Nat.le_of_ble_eq_true rfl) ?_
  intro p e s m args below meth c H locs ls X M w hl
  replace X : CallFix p m c cX9_rightsOf 1 s args TT RX9 := X
  replace hl : lv_has ls 1 [(0, .int a0)] := hl
  unfold fX9_rightsOf at h
  refine lv_iload_n X.1 X.2.1 dX9_rightsOf_0 rfl (lv_at hl 0 rfl) ?_
  refine lv_iconst (v := (2 : Int32)) X.1 X.2.1 dX9_rightsOf_1 (by decide) ?_
  refine lv_ishr X.1 X.2.1 dX9_rightsOf_2 ?_
  refine lv_bipush (v := (15 : Int32)) X.1 X.2.1 dX9_rightsOf_3 (by decide) ?_
  refine lv_iand X.1 X.2.1 dX9_rightsOf_5 ?_
  subst h
  exact r_iret X M w dX9_rightsOf_6
/-! WalkHouseModel.targetOf(I)I (T) -/
theorem hdX9_targetOf : yX9_targetOf.cls ≠ "java/lang/invoke/MethodHandle" ∧ yX9_targetOf.cls ≠ "java/lang/invoke/VarHandle" ∧ (parseMethodDescriptor yX9_targetOf.desc).map (fun d => d.parameters.length) = some 1 := by decide +kernel
def fX9_targetOf (a0 : Int32) : Int32 :=
  (a0 >>> ((6 : Int32) &&& 31))
set_option maxRecDepth 100000 in
set_option maxHeartbeats 4000000 in
theorem kX9_targetOf (l : Launch) (D : va_G) (ca : Nat → ClassId) (ad : Nat → Nat) (mem : Mm) (a0 : Int32)  {r : Int32} (h : fX9_targetOf a0 = r) : CtI l yX9_targetOf cX9_targetOf 1 (some .int) (rmx 0 0) D ca ad layM mem [.int a0] mem r := by
  refine CtI.of (by decide) (Nat.le_of_ble_eq_true rfl) ?_
  intro p e s m args below meth c H locs ls X M w hl
  replace X : CallFix p m c cX9_targetOf 1 s args TT RX9 := X
  replace hl : lv_has ls 1 [(0, .int a0)] := hl
  unfold fX9_targetOf at h
  refine lv_iload_n X.1 X.2.1 dX9_targetOf_0 rfl (lv_at hl 0 rfl) ?_
  refine lv_bipush (v := (6 : Int32)) X.1 X.2.1 dX9_targetOf_1 (by decide) ?_
  refine lv_ishr X.1 X.2.1 dX9_targetOf_3 ?_
  subst h
  exact r_iret X M w dX9_targetOf_4
/-! WalkHouseModel.wide(I)I (T) -/
theorem hdX9_wide : yX9_wide.cls ≠ "java/lang/invoke/MethodHandle" ∧ yX9_wide.cls ≠ "java/lang/invoke/VarHandle" ∧ (parseMethodDescriptor yX9_wide.desc).map (fun d => d.parameters.length) = some 1 := by decide +kernel
def fX9_wide (a0 : Int32) : Int32 :=
  if a0 = (2 : Int32) then (64 : Int32) else if a0 = (1 : Int32) then (8 : Int32) else (1 : Int32)
set_option maxRecDepth 100000 in
set_option maxHeartbeats 4000000 in
theorem kX9_wide (l : Launch) (D : va_G) (ca : Nat → ClassId) (ad : Nat → Nat) (mem : Mm) (a0 : Int32)  {r : Int32} (h : fX9_wide a0 = r) : CtI l yX9_wide cX9_wide 1 (some .int) (rmx 0 0) D ca ad layM mem [.int a0] mem r := by
  refine CtI.of (by decide) (Nat.le_of_ble_eq_true rfl) ?_
  intro p e s m args below meth c H locs ls X M w hl
  replace X : CallFix p m c cX9_wide 1 s args TT RX9 := X
  replace hl : lv_has ls 1 [(0, .int a0)] := hl
  unfold fX9_wide at h
  refine lv_iload_n X.1 X.2.1 dX9_wide_0 rfl (lv_at hl 0 rfl) ?_
  refine lv_iconst (v := (2 : Int32)) X.1 X.2.1 dX9_wide_1 (by decide) ?_
  refine lv_icmp_ne (tgt := 10) X.1 X.2.1 dX9_wide_2 (by decide) (fun c1 => ?_) (fun c1 => ?_)
  · rw [if_neg c1] at h
    refine lv_iload_n X.1 X.2.1 dX9_wide_10 rfl (lv_at hl 0 rfl) ?_
    refine lv_iconst (v := (1 : Int32)) X.1 X.2.1 dX9_wide_11 (by decide) ?_
    refine lv_icmp_ne (tgt := 20) X.1 X.2.1 dX9_wide_12 (by decide) (fun c2 => ?_) (fun c2 => ?_)
    · rw [if_neg c2] at h
      refine lv_iconst (v := (1 : Int32)) X.1 X.2.1 dX9_wide_20 (by decide) ?_
      subst h
      exact r_iret X M w dX9_wide_21
    · rw [if_pos c2] at h
      refine lv_bipush (v := (8 : Int32)) X.1 X.2.1 dX9_wide_15 (by decide) ?_
      refine lv_goto (tgt := 21) X.1 X.2.1 dX9_wide_17 (by decide) ?_
      subst h
      exact r_iret X M w dX9_wide_21
  · rw [if_pos c1] at h
    refine lv_bipush (v := (64 : Int32)) X.1 X.2.1 dX9_wide_5 (by decide) ?_
    refine lv_goto (tgt := 21) X.1 X.2.1 dX9_wide_7 (by decide) ?_
    subst h
    exact r_iret X M w dX9_wide_21
/-! WalkHouseModel.place(III)I (R) -/
theorem hdX9_place : yX9_place.cls ≠ "java/lang/invoke/MethodHandle" ∧ yX9_place.cls ≠ "java/lang/invoke/VarHandle" ∧ (parseMethodDescriptor yX9_place.desc).map (fun d => d.parameters.length) = some 3 := by decide +kernel
def fX9_place (a0 : Int32) (a1 : Int32) (a2 : Int32) : Option Int32 :=
  nz (fX9_wide a2) (some (((8 : Int32) * a0) + ((a1 / (fX9_wide a2)) - (a1 / (fX9_wide a2)) / (8 : Int32) * (8 : Int32))))
set_option maxRecDepth 100000 in
set_option maxHeartbeats 4000000 in
theorem kX9_place (l : Launch) (D : va_G) (ca : Nat → ClassId) (ad : Nat → Nat) (mem : Mm) (a0 : Int32) (a1 : Int32) (a2 : Int32)  {r : Int32} (h : fX9_place a0 a1 a2 = some r) : CtI l yX9_place cX9_place 3 (some .int) (rmx 1 20) D ca ad layM mem [.int a0, .int a1, .int a2] mem r := by
  refine CtI.of (by decide) (Nat.le_of_ble_eq_true rfl) ?_
  intro p e s m args below meth c H locs ls X M w hl
  replace X : CallFix p m c cX9_place 3 s args TT RX9 := X
  replace hl : lv_has ls 3 [(0, .int a0), (1, .int a1), (2, .int a2)] := hl
  unfold fX9_place at h
  refine lv_bipush (v := (8 : Int32)) X.1 X.2.1 dX9_place_0 (by decide) ?_
  refine lv_iload_n X.1 X.2.1 dX9_place_2 rfl (lv_at hl 0 rfl) ?_
  refine lv_imul X.1 X.2.1 dX9_place_3 ?_
  refine lv_iload_n X.1 X.2.1 dX9_place_4 rfl (lv_at hl 1 rfl) ?_
  refine lv_iload_n X.1 X.2.1 dX9_place_5 rfl (lv_at hl 2 rfl) ?_
  refine r_cSi (As := [.int a2]) (rest := [.int a1, .int ((8 : Int32) * a0)]) X w (kX9_wide  l D ca ad mem a2  rfl) (gTS tw_1066 tw_1067 tw_75 tw_1068) hdX9_wide (by decide) rfl hl.1 rfl (Nat.le_of_ble_eq_true rfl) dX9_place_6 ⟨Nat.zero_le _, Nat.zero_le _⟩ (fun H locs w => ?_)
  obtain ⟨hz1, h⟩ := nz_some h
  refine lv_idiv X.1 X.2.1 dX9_place_9 hz1 ?_
  refine lv_bipush (v := (8 : Int32)) X.1 X.2.1 dX9_place_10 (by decide) ?_
  refine lv_irem X.1 X.2.1 dX9_place_12 (by decide) ?_
  refine lv_iadd X.1 X.2.1 dX9_place_13 ?_
  obtain rfl := Option.some.inj h
  exact r_iret X M w dX9_place_14
/-! WalkHouseModel.remembers(II)V (W) -/
theorem hdX9_remembers : yX9_remembers.cls = RX9 ∧ yX9_remembers.cls ≠ "java/lang/invoke/MethodHandle" ∧ yX9_remembers.cls ≠ "java/lang/invoke/VarHandle" ∧ (parseMethodDescriptor yX9_remembers.desc).map (fun d => d.parameters.length) = some 2 := by decide +kernel
def fX9_remembers_b75  (mem : Mm) (x1 : Int32) (x2 : Int32) : Option (Mm × Unit) :=
  wk mem 0 7 ((mem 0 7) + (1 : Int32)) (fun m1 => gd (m1 0 6) 40 (wk m1 3 (m1 0 6).toNatClampNeg x1 (fun m3 => gd (m3 0 6) 40 (wk m3 4 (m3 0 6).toNatClampNeg x2 (fun m5 => gd (m5 0 6) 40 (wk m5 5 (m5 0 6).toNatClampNeg (m5 0 7) (fun m7 => wk m7 0 6 ((m7 0 6) + (1 : Int32)) (fun m8 => some (m8, ())))))))))
set_option maxRecDepth 100000 in
set_option maxHeartbeats 4000000 in
theorem wX9_remembers_b75 {p : Program} {l : Launch} {e : Env} {s : State} {m : MethodId} {args : Array Value} {below : List Frame} {meth : Method} {c : Code} {D : va_G} {ca : Nat → ClassId} {ad : Nat → Nat} {H : Heap} {locs : List Loc} {ls : Array Slot} {mem : Mm} {x1 : Int32} {x2 : Int32}  {mem' : Mm} {r : Unit} (X : CallFix p m c cX9_remembers 4 s args TT RX9) (M : Mt meth none)   (w : Wd D ca ad layM (AA ad layM.length) s.heap s mem H locs) (hl : lv_has ls 4 [(0, .ref (ad 0)), (1, .int x1), (2, .int x2)]) (h : fX9_remembers_b75  mem x1 x2 = some (mem', r)) : W p l e (rmx 0 0) s m args below meth c H locs 0 0 (EndV D ca ad layM mem' below args s) (F0 m 75 ls []) := by
  unfold fX9_remembers_b75 at h
  refine lv_aload_n X.1 X.2.1 dX9_remembers_75 rfl (lv_at hl 0 rfl) ?_
  refine lv_dup X.1 X.2.1 dX9_remembers_76 rfl ?_
  refine r_get X w lyM_0 rfl inT9 7 rfl (by decide) rfl tw_909 dX9_remembers_77 ?_
  refine lv_iconst (v := (1 : Int32)) X.1 X.2.1 dX9_remembers_80 (by decide) ?_
  refine lv_iadd X.1 X.2.1 dX9_remembers_81 ?_
  refine r_put X w lyM_0 rfl inT9 tyX9 tyX9_ok nmX9 7 rfl (by decide) rfl rfl tw_909 rfl rfl dX9_remembers_82 (fun H locs w => ?_)
  obtain ⟨m1, em1, h⟩ := wk_some h
  rw [em1] at w
  refine lv_aload_n X.1 X.2.1 dX9_remembers_85 rfl (lv_at hl 0 rfl) ?_
  refine r_getr (b2 := 3) X w lyM_0 rfl inT9 3 rfl rfl (by decide) rfl tw_905 dX9_remembers_86 ?_
  refine lv_aload_n X.1 X.2.1 dX9_remembers_89 rfl (lv_at hl 0 rfl) ?_
  refine r_get X w lyM_0 rfl inT9 6 rfl (by decide) rfl tw_908 dX9_remembers_90 ?_
  refine lv_iload_n X.1 X.2.1 dX9_remembers_93 rfl (lv_at hl 1 rfl) ?_
  obtain ⟨hi2, h⟩ := gd_some h
  refine r_iast X w lyM_3 hi2 dX9_remembers_94 (fun H locs w => ?_)
  obtain ⟨m3, em3, h⟩ := wk_some h
  rw [em3] at w
  refine lv_aload_n X.1 X.2.1 dX9_remembers_95 rfl (lv_at hl 0 rfl) ?_
  refine r_getr (b2 := 4) X w lyM_0 rfl inT9 4 rfl rfl (by decide) rfl tw_906 dX9_remembers_96 ?_
  refine lv_aload_n X.1 X.2.1 dX9_remembers_99 rfl (lv_at hl 0 rfl) ?_
  refine r_get X w lyM_0 rfl inT9 6 rfl (by decide) rfl tw_908 dX9_remembers_100 ?_
  refine lv_iload_n X.1 X.2.1 dX9_remembers_103 rfl (lv_at hl 2 rfl) ?_
  obtain ⟨hi4, h⟩ := gd_some h
  refine r_iast X w lyM_4 hi4 dX9_remembers_104 (fun H locs w => ?_)
  obtain ⟨m5, em5, h⟩ := wk_some h
  rw [em5] at w
  refine lv_aload_n X.1 X.2.1 dX9_remembers_105 rfl (lv_at hl 0 rfl) ?_
  refine r_getr (b2 := 5) X w lyM_0 rfl inT9 5 rfl rfl (by decide) rfl tw_907 dX9_remembers_106 ?_
  refine lv_aload_n X.1 X.2.1 dX9_remembers_109 rfl (lv_at hl 0 rfl) ?_
  refine r_get X w lyM_0 rfl inT9 6 rfl (by decide) rfl tw_908 dX9_remembers_110 ?_
  refine lv_aload_n X.1 X.2.1 dX9_remembers_113 rfl (lv_at hl 0 rfl) ?_
  refine r_get X w lyM_0 rfl inT9 7 rfl (by decide) rfl tw_909 dX9_remembers_114 ?_
  obtain ⟨hi6, h⟩ := gd_some h
  refine r_iast X w lyM_5 hi6 dX9_remembers_117 (fun H locs w => ?_)
  obtain ⟨m7, em7, h⟩ := wk_some h
  rw [em7] at w
  refine lv_aload_n X.1 X.2.1 dX9_remembers_118 rfl (lv_at hl 0 rfl) ?_
  refine lv_dup X.1 X.2.1 dX9_remembers_119 rfl ?_
  refine r_get X w lyM_0 rfl inT9 6 rfl (by decide) rfl tw_908 dX9_remembers_120 ?_
  refine lv_iconst (v := (1 : Int32)) X.1 X.2.1 dX9_remembers_123 (by decide) ?_
  refine lv_iadd X.1 X.2.1 dX9_remembers_124 ?_
  refine r_put X w lyM_0 rfl inT9 tyX9 tyX9_ok nmX9 6 rfl (by decide) rfl rfl tw_908 rfl rfl dX9_remembers_125 (fun H locs w => ?_)
  obtain ⟨m8, em8, h⟩ := wk_some h
  rw [em8] at w
  obtain ⟨rfl, -⟩ := Prod.mk.inj (Option.some.inj h)
  exact r_vret X M w dX9_remembers_128
def fX9_remembers_b11_s  (k11 : Mm → Int32 → Int32 → Int32 → Option (Mm × Unit)) (mem : Mm) (x1 : Int32) (x2 : Int32) (x3 : Int32) : Option (Mm × Unit) :=
  if (40 : Int32) ≤ x3 then wk mem 0 6 ((mem 0 6) - (1 : Int32)) (fun m2 => fX9_remembers_b75 m2 x1 x2) else gd x3 40 (gd (x3 - (1 : Int32)) 40 (wk mem 3 (x3 - (1 : Int32)).toNatClampNeg (mem 3 x3.toNatClampNeg) (fun m5 => gd x3 40 (gd (x3 - (1 : Int32)) 40 (wk m5 4 (x3 - (1 : Int32)).toNatClampNeg (m5 4 x3.toNatClampNeg) (fun m8 => gd x3 40 (gd (x3 - (1 : Int32)) 40 (wk m8 5 (x3 - (1 : Int32)).toNatClampNeg (m8 5 x3.toNatClampNeg) (fun m11 => k11 m11 x1 x2 (x3 + (1 : Int32)))))))))))
def fX9_remembers_b11  : Nat → Mm → Int32 → Int32 → Int32 → Option (Mm × Unit)
  | 0 => fun _ _ _ _ => none
  | n + 1 => fX9_remembers_b11_s  (fX9_remembers_b11  n)
set_option maxRecDepth 100000 in
set_option maxHeartbeats 4000000 in
theorem wX9_remembers_b11_s {p : Program} {l : Launch} {e : Env} {s : State} {m : MethodId} {args : Array Value} {below : List Frame} {meth : Method} {c : Code} {D : va_G} {ca : Nat → ClassId} {ad : Nat → Nat} {H : Heap} {locs : List Loc} {ls : Array Slot} {mem : Mm} {x1 : Int32} {x2 : Int32} {x3 : Int32}  {k11 : Mm → Int32 → Int32 → Int32 → Option (Mm × Unit)} {mem' : Mm} {r : Unit} (X : CallFix p m c cX9_remembers 4 s args TT RX9) (M : Mt meth none)  (hk11 : ∀ (mem : Mm) (x1 : Int32) (x2 : Int32) (x3 : Int32) (H : Heap) (locs : List Loc) (ls : Array Slot) , Wd D ca ad layM (AA ad layM.length) s.heap s mem H locs → lv_has ls 4 [(0, .ref (ad 0)), (1, .int x1), (2, .int x2), (3, .int x3)] → k11 mem x1 x2 x3 = some (mem', r) → W p l e (rmx 0 0) s m args below meth c H locs 0 0 (EndV D ca ad layM mem' below args s) (F0 m 11 ls []))  (w : Wd D ca ad layM (AA ad layM.length) s.heap s mem H locs) (hl : lv_has ls 4 [(0, .ref (ad 0)), (1, .int x1), (2, .int x2), (3, .int x3)]) (h : fX9_remembers_b11_s  k11 mem x1 x2 x3 = some (mem', r)) : W p l e (rmx 0 0) s m args below meth c H locs 0 0 (EndV D ca ad layM mem' below args s) (F0 m 11 ls []) := by
  unfold fX9_remembers_b11_s at h
  refine lv_iload_n X.1 X.2.1 dX9_remembers_11 rfl (lv_at hl 3 rfl) ?_
  refine lv_bipush (v := (40 : Int32)) X.1 X.2.1 dX9_remembers_12 (by decide) ?_
  refine lv_icmp_ge (tgt := 65) X.1 X.2.1 dX9_remembers_14 (by decide) (fun c1 => ?_) (fun c1 => ?_)
  · rw [if_pos c1] at h
    refine lv_aload_n X.1 X.2.1 dX9_remembers_65 rfl (lv_at hl 0 rfl) ?_
    refine lv_dup X.1 X.2.1 dX9_remembers_66 rfl ?_
    refine r_get X w lyM_0 rfl inT9 6 rfl (by decide) rfl tw_908 dX9_remembers_67 ?_
    refine lv_iconst (v := (1 : Int32)) X.1 X.2.1 dX9_remembers_70 (by decide) ?_
    refine lv_isub X.1 X.2.1 dX9_remembers_71 ?_
    refine r_put X w lyM_0 rfl inT9 tyX9 tyX9_ok nmX9 6 rfl (by decide) rfl rfl tw_908 rfl rfl dX9_remembers_72 (fun H locs w => ?_)
    obtain ⟨m2, em2, h⟩ := wk_some h
    rw [em2] at w
    exact wX9_remembers_b75 X M w (lv_sub hl [0, 1, 2] rfl) h
  · rw [if_neg c1] at h
    refine lv_aload_n X.1 X.2.1 dX9_remembers_17 rfl (lv_at hl 0 rfl) ?_
    refine r_getr (b2 := 3) X w lyM_0 rfl inT9 3 rfl rfl (by decide) rfl tw_905 dX9_remembers_18 ?_
    refine lv_iload_n X.1 X.2.1 dX9_remembers_21 rfl (lv_at hl 3 rfl) ?_
    refine lv_iconst (v := (1 : Int32)) X.1 X.2.1 dX9_remembers_22 (by decide) ?_
    refine lv_isub X.1 X.2.1 dX9_remembers_23 ?_
    refine lv_aload_n X.1 X.2.1 dX9_remembers_24 rfl (lv_at hl 0 rfl) ?_
    refine r_getr (b2 := 3) X w lyM_0 rfl inT9 3 rfl rfl (by decide) rfl tw_905 dX9_remembers_25 ?_
    refine lv_iload_n X.1 X.2.1 dX9_remembers_28 rfl (lv_at hl 3 rfl) ?_
    obtain ⟨hi3, h⟩ := gd_some h
    refine r_iald X w lyM_3 hi3 dX9_remembers_29 ?_
    obtain ⟨hi4, h⟩ := gd_some h
    refine r_iast X w lyM_3 hi4 dX9_remembers_30 (fun H locs w => ?_)
    obtain ⟨m5, em5, h⟩ := wk_some h
    rw [em5] at w
    refine lv_aload_n X.1 X.2.1 dX9_remembers_31 rfl (lv_at hl 0 rfl) ?_
    refine r_getr (b2 := 4) X w lyM_0 rfl inT9 4 rfl rfl (by decide) rfl tw_906 dX9_remembers_32 ?_
    refine lv_iload_n X.1 X.2.1 dX9_remembers_35 rfl (lv_at hl 3 rfl) ?_
    refine lv_iconst (v := (1 : Int32)) X.1 X.2.1 dX9_remembers_36 (by decide) ?_
    refine lv_isub X.1 X.2.1 dX9_remembers_37 ?_
    refine lv_aload_n X.1 X.2.1 dX9_remembers_38 rfl (lv_at hl 0 rfl) ?_
    refine r_getr (b2 := 4) X w lyM_0 rfl inT9 4 rfl rfl (by decide) rfl tw_906 dX9_remembers_39 ?_
    refine lv_iload_n X.1 X.2.1 dX9_remembers_42 rfl (lv_at hl 3 rfl) ?_
    obtain ⟨hi6, h⟩ := gd_some h
    refine r_iald X w lyM_4 hi6 dX9_remembers_43 ?_
    obtain ⟨hi7, h⟩ := gd_some h
    refine r_iast X w lyM_4 hi7 dX9_remembers_44 (fun H locs w => ?_)
    obtain ⟨m8, em8, h⟩ := wk_some h
    rw [em8] at w
    refine lv_aload_n X.1 X.2.1 dX9_remembers_45 rfl (lv_at hl 0 rfl) ?_
    refine r_getr (b2 := 5) X w lyM_0 rfl inT9 5 rfl rfl (by decide) rfl tw_907 dX9_remembers_46 ?_
    refine lv_iload_n X.1 X.2.1 dX9_remembers_49 rfl (lv_at hl 3 rfl) ?_
    refine lv_iconst (v := (1 : Int32)) X.1 X.2.1 dX9_remembers_50 (by decide) ?_
    refine lv_isub X.1 X.2.1 dX9_remembers_51 ?_
    refine lv_aload_n X.1 X.2.1 dX9_remembers_52 rfl (lv_at hl 0 rfl) ?_
    refine r_getr (b2 := 5) X w lyM_0 rfl inT9 5 rfl rfl (by decide) rfl tw_907 dX9_remembers_53 ?_
    refine lv_iload_n X.1 X.2.1 dX9_remembers_56 rfl (lv_at hl 3 rfl) ?_
    obtain ⟨hi9, h⟩ := gd_some h
    refine r_iald X w lyM_5 hi9 dX9_remembers_57 ?_
    obtain ⟨hi10, h⟩ := gd_some h
    refine r_iast X w lyM_5 hi10 dX9_remembers_58 (fun H locs w => ?_)
    obtain ⟨m11, em11, h⟩ := wk_some h
    rw [em11] at w
    refine lv_iinc (v := (x3 + (1 : Int32))) (lv' := [(3, .int (x3 + (1 : Int32))), (0, .ref (ad 0)), (1, .int x1), (2, .int x2)]) X.1 X.2.1 dX9_remembers_59 hl (k := 3) rfl rfl (by decide) rfl (fun ls hl => ?_)
    refine lv_goto (tgt := 11) X.1 X.2.1 dX9_remembers_62 (by decide) ?_
    exact hk11 _ _ _ _ H locs ls w (lv_sub hl [1, 2, 3, 0] rfl) h
set_option maxRecDepth 100000 in
set_option maxHeartbeats 4000000 in
theorem wX9_remembers_b11 {p : Program} {l : Launch} {e : Env} {s : State} {m : MethodId} {args : Array Value} {below : List Frame} {meth : Method} {c : Code} {D : va_G} {ca : Nat → ClassId} {ad : Nat → Nat}  {mem' : Mm} {r : Unit} (X : CallFix p m c cX9_remembers 4 s args TT RX9) (M : Mt meth none)  : ∀ (n : Nat) (mem : Mm) (x1 : Int32) (x2 : Int32) (x3 : Int32) (H : Heap) (locs : List Loc) (ls : Array Slot)  (_ : Wd D ca ad layM (AA ad layM.length) s.heap s mem H locs) (_ : lv_has ls 4 [(0, .ref (ad 0)), (1, .int x1), (2, .int x2), (3, .int x3)]) (_ : fX9_remembers_b11  n mem x1 x2 x3 = some (mem', r)), W p l e (rmx 0 0) s m args below meth c H locs 0 0 (EndV D ca ad layM mem' below args s) (F0 m 11 ls []) := by
  intro n
  induction n with
  | zero => intro mem x1 x2 x3 H locs ls  w hl h; exact (nofun : (none : Option (Mm × Unit)) = _ → _) h
  | succ n ih => intro mem x1 x2 x3 H locs ls  w hl h; exact wX9_remembers_b11_s X M  ih  w hl h
def fX9_remembers (mem : Mm) (a1 : Int32) (a2 : Int32) : Option (Mm × Unit) :=
  if (mem 0 6) = (40 : Int32) then fX9_remembers_b11 2000 mem a1 a2 (1 : Int32) else fX9_remembers_b75 mem a1 a2
set_option maxRecDepth 100000 in
set_option maxHeartbeats 4000000 in
theorem kX9_remembers (l : Launch) (D : va_G) (ca : Nat → ClassId) (ad : Nat → Nat) (mem : Mm) (a1 : Int32) (a2 : Int32)  {mem' : Mm} {r : Unit} (h : fX9_remembers mem a1 a2 = some (mem', r)) : CtV l yX9_remembers cX9_remembers 4 none (rmx 0 0) D ca ad layM mem [.ref (ad 0), .int a1, .int a2] mem' := by
  refine CtV.of (by decide) (Nat.le_of_ble_eq_true rfl) ?_
  intro p e s m args below meth c H locs ls X M w hl
  replace X : CallFix p m c cX9_remembers 4 s args TT RX9 := X
  replace hl : lv_has ls 4 [(0, .ref (ad 0)), (1, .int a1), (2, .int a2)] := hl
  unfold fX9_remembers at h
  refine lv_aload_n X.1 X.2.1 dX9_remembers_0 rfl (lv_at hl 0 rfl) ?_
  refine r_get X w lyM_0 rfl inT9 6 rfl (by decide) rfl tw_908 dX9_remembers_1 ?_
  refine lv_bipush (v := (40 : Int32)) X.1 X.2.1 dX9_remembers_4 (by decide) ?_
  refine lv_icmp_ne (tgt := 75) X.1 X.2.1 dX9_remembers_6 (by decide) (fun c1 => ?_) (fun c1 => ?_)
  · rw [if_neg c1] at h
    exact wX9_remembers_b75 X M w (lv_sub hl [0, 1, 2] rfl) h
  · rw [if_pos c1] at h
    refine lv_iconst (v := (1 : Int32)) X.1 X.2.1 dX9_remembers_9 (by decide) ?_
    refine lv_istore_n (lv' := [(3, .int (1 : Int32)), (0, .ref (ad 0)), (1, .int a1), (2, .int a2)]) X.1 X.2.1 dX9_remembers_10 rfl hl (by decide) rfl (fun ls hl => ?_)
    exact wX9_remembers_b11 X M _ _ _ _ _ H locs ls w (lv_sub hl [1, 2, 3, 0] rfl) h
/-! WalkHouseModel.entry(IIIII)I (W) -/
theorem hdX9_entry : yX9_entry.cls = RX9 ∧ yX9_entry.cls ≠ "java/lang/invoke/MethodHandle" ∧ yX9_entry.cls ≠ "java/lang/invoke/VarHandle" ∧ (parseMethodDescriptor yX9_entry.desc).map (fun d => d.parameters.length) = some 5 := by decide +kernel
def fX9_entry_b99  (mem : Mm) (x1 : Int32) (x2 : Int32) (s0 : Int32) : Option (Mm × Int32) :=
  lk (((8 : Int32) * x1) + x2) (fun x_1 => gd ((0 : Int32) + x_1) 345 (lk (mem 1 ((0 : Int32) + x_1).toNatClampNeg) (fun x_3 => if x_3 = s0 then some (mem, (fX9_whatOf x_3)) else bw (fX9_remembers mem x_1 x_3) (fun m6 r5 => gd ((0 : Int32) + x_1) 345 (wk m6 1 ((0 : Int32) + x_1).toNatClampNeg s0 (fun m8 => gd ((96 : Int32) + x_1) 345 (wk m8 1 ((96 : Int32) + x_1).toNatClampNeg (0 : Int32) (fun m10 => some (m10, (fX9_whatOf x_3))))))))))
set_option maxRecDepth 100000 in
set_option maxHeartbeats 4000000 in
theorem wX9_entry_b99 {p : Program} {l : Launch} {e : Env} {s : State} {m : MethodId} {args : Array Value} {below : List Frame} {meth : Method} {c : Code} {D : va_G} {ca : Nat → ClassId} {ad : Nat → Nat} {H : Heap} {locs : List Loc} {ls : Array Slot} {mem : Mm} {x1 : Int32} {x2 : Int32} {s0 : Int32}  {mem' : Mm} {r : Int32} (X : CallFix p m c cX9_entry 10 s args TT RX9) (M : Mt meth (some .int))   (w : Wd D ca ad layM (AA ad layM.length) s.heap s mem H locs) (hl : lv_has ls 10 [(0, .ref (ad 0)), (1, .int x1), (2, .int x2)]) (h : fX9_entry_b99  mem x1 x2 s0 = some (mem', r)) : W p l e (rmx 2 43) s m args below meth c H locs 0 0 (EndI D ca ad layM mem' r below args s) (F0 m 99 ls [.int s0]) := by
  unfold fX9_entry_b99 at h
  refine lv_istore (lv' := [(7, .int s0), (0, .ref (ad 0)), (1, .int x1), (2, .int x2)]) X.1 X.2.1 dX9_entry_99 hl (by decide) rfl (fun ls hl => ?_)
  refine lv_bipush (v := (8 : Int32)) X.1 X.2.1 dX9_entry_101 (by decide) ?_
  refine lv_iload_n X.1 X.2.1 dX9_entry_103 rfl (lv_at hl 2 rfl) ?_
  refine lv_imul X.1 X.2.1 dX9_entry_104 ?_
  refine lv_iload_n X.1 X.2.1 dX9_entry_105 rfl (lv_at hl 3 rfl) ?_
  refine lv_iadd X.1 X.2.1 dX9_entry_106 ?_
  obtain ⟨x_1, ex_1, h⟩ := lk_some h
  refine lv_name ex_1 ?_
  refine lv_istore (lv' := [(8, .int x_1), (7, .int s0), (0, .ref (ad 0)), (1, .int x1), (2, .int x2)]) X.1 X.2.1 dX9_entry_107 hl (by decide) rfl (fun ls hl => ?_)
  refine lv_aload_n X.1 X.2.1 dX9_entry_109 rfl (lv_at hl 2 rfl) ?_
  refine r_getr (b2 := 1) X w lyM_0 rfl inT9 1 rfl rfl (by decide) rfl tw_903 dX9_entry_110 ?_
  refine lv_iconst (v := (0 : Int32)) X.1 X.2.1 dX9_entry_113 (by decide) ?_
  refine lv_iload X.1 X.2.1 dX9_entry_114 (lv_at hl 0 rfl) ?_
  refine lv_iadd X.1 X.2.1 dX9_entry_116 ?_
  obtain ⟨hi2, h⟩ := gd_some h
  refine r_iald X w lyM_1 hi2 dX9_entry_117 ?_
  obtain ⟨x_3, ex_3, h⟩ := lk_some h
  refine lv_name ex_3 ?_
  refine lv_istore (lv' := [(9, .int x_3), (8, .int x_1), (7, .int s0), (0, .ref (ad 0)), (1, .int x1), (2, .int x2)]) X.1 X.2.1 dX9_entry_118 hl (by decide) rfl (fun ls hl => ?_)
  refine lv_iload X.1 X.2.1 dX9_entry_120 (lv_at hl 0 rfl) ?_
  refine lv_iload X.1 X.2.1 dX9_entry_122 (lv_at hl 2 rfl) ?_
  refine lv_icmp_eq (tgt := 157) X.1 X.2.1 dX9_entry_124 (by decide) (fun c4 => ?_) (fun c4 => ?_)
  · rw [if_pos c4] at h
    refine lv_iload X.1 X.2.1 dX9_entry_157 (lv_at hl 0 rfl) ?_
    refine r_cSi (As := [.int x_3]) (rest := []) X w (kX9_whatOf  l D ca ad mem x_3  rfl) (gTS tw_993 tw_994 tw_75 tw_995) hdX9_whatOf (by decide) rfl hl.1 rfl (Nat.le_of_ble_eq_true rfl) dX9_entry_159 ⟨Nat.zero_le _, Nat.zero_le _⟩ (fun H locs w => ?_)
    obtain ⟨rfl, rfl⟩ := Prod.mk.inj (Option.some.inj h)
    exact r_iret X M w dX9_entry_162
  · rw [if_neg c4] at h
    refine lv_aload_n X.1 X.2.1 dX9_entry_127 rfl (lv_at hl 3 rfl) ?_
    refine lv_iload X.1 X.2.1 dX9_entry_128 (lv_at hl 1 rfl) ?_
    refine lv_iload X.1 X.2.1 dX9_entry_130 (lv_at hl 0 rfl) ?_
    obtain ⟨m6, r5, hr5, h⟩ := bw_some h
    refine r_cVv (As := [.int x_1, .int x_3]) (rest := []) X w lyM_0 rfl (kX9_remembers  l D ca ad mem x_1 x_3  hr5) (gTV tw_989 tw_991 tw_27 tw_75 tw_992) hdX9_remembers (by decide) rfl hl.1 rfl (Nat.le_of_ble_eq_true rfl) dX9_entry_132 ⟨Nat.zero_le _, Nat.zero_le _⟩ (fun H locs w => ?_)
    refine lv_aload_n X.1 X.2.1 dX9_entry_135 rfl (lv_at hl 3 rfl) ?_
    refine r_getr (b2 := 1) X w lyM_0 rfl inT9 1 rfl rfl (by decide) rfl tw_903 dX9_entry_136 ?_
    refine lv_iconst (v := (0 : Int32)) X.1 X.2.1 dX9_entry_139 (by decide) ?_
    refine lv_iload X.1 X.2.1 dX9_entry_140 (lv_at hl 1 rfl) ?_
    refine lv_iadd X.1 X.2.1 dX9_entry_142 ?_
    refine lv_iload X.1 X.2.1 dX9_entry_143 (lv_at hl 2 rfl) ?_
    obtain ⟨hi7, h⟩ := gd_some h
    refine r_iast X w lyM_1 hi7 dX9_entry_145 (fun H locs w => ?_)
    obtain ⟨m8, em8, h⟩ := wk_some h
    rw [em8] at w
    refine lv_aload_n X.1 X.2.1 dX9_entry_146 rfl (lv_at hl 3 rfl) ?_
    refine r_getr (b2 := 1) X w lyM_0 rfl inT9 1 rfl rfl (by decide) rfl tw_903 dX9_entry_147 ?_
    refine lv_bipush (v := (96 : Int32)) X.1 X.2.1 dX9_entry_150 (by decide) ?_
    refine lv_iload X.1 X.2.1 dX9_entry_152 (lv_at hl 1 rfl) ?_
    refine lv_iadd X.1 X.2.1 dX9_entry_154 ?_
    refine lv_iconst (v := (0 : Int32)) X.1 X.2.1 dX9_entry_155 (by decide) ?_
    obtain ⟨hi9, h⟩ := gd_some h
    refine r_iast X w lyM_1 hi9 dX9_entry_156 (fun H locs w => ?_)
    obtain ⟨m10, em10, h⟩ := wk_some h
    rw [em10] at w
    refine lv_iload X.1 X.2.1 dX9_entry_157 (lv_at hl 0 rfl) ?_
    refine r_cSi (As := [.int x_3]) (rest := []) X w (kX9_whatOf  l D ca ad m10 x_3  rfl) (gTS tw_993 tw_994 tw_75 tw_995) hdX9_whatOf (by decide) rfl hl.1 rfl (Nat.le_of_ble_eq_true rfl) dX9_entry_159 ⟨Nat.zero_le _, Nat.zero_le _⟩ (fun H locs w => ?_)
    obtain ⟨rfl, rfl⟩ := Prod.mk.inj (Option.some.inj h)
    exact r_iret X M w dX9_entry_162
def fX9_entry_b79  (mem : Mm) (x1 : Int32) (x2 : Int32) (x3 : Int32) (x4 : Int32) (x5 : Int32) : Option (Mm × Int32) :=
  if x3 = 0 then fX9_entry_b99 mem x1 x2 (0 : Int32) else fX9_entry_b99 mem x1 x2 ((x3 ||| (x5 <<< ((2 : Int32) &&& 31))) ||| (x4 <<< ((6 : Int32) &&& 31)))
set_option maxRecDepth 100000 in
set_option maxHeartbeats 4000000 in
theorem wX9_entry_b79 {p : Program} {l : Launch} {e : Env} {s : State} {m : MethodId} {args : Array Value} {below : List Frame} {meth : Method} {c : Code} {D : va_G} {ca : Nat → ClassId} {ad : Nat → Nat} {H : Heap} {locs : List Loc} {ls : Array Slot} {mem : Mm} {x1 : Int32} {x2 : Int32} {x3 : Int32} {x4 : Int32} {x5 : Int32}  {mem' : Mm} {r : Int32} (X : CallFix p m c cX9_entry 10 s args TT RX9) (M : Mt meth (some .int))   (w : Wd D ca ad layM (AA ad layM.length) s.heap s mem H locs) (hl : lv_has ls 10 [(0, .ref (ad 0)), (1, .int x1), (2, .int x2), (3, .int x3), (4, .int x4), (5, .int x5)]) (h : fX9_entry_b79  mem x1 x2 x3 x4 x5 = some (mem', r)) : W p l e (rmx 2 43) s m args below meth c H locs 0 0 (EndI D ca ad layM mem' r below args s) (F0 m 79 ls []) := by
  unfold fX9_entry_b79 at h
  refine lv_iload_n X.1 X.2.1 dX9_entry_79 rfl (lv_at hl 3 rfl) ?_
  refine lv_if_ne (tgt := 87) X.1 X.2.1 dX9_entry_80 (by decide) (fun c1 => ?_) (fun c1 => ?_)
  · rw [if_neg c1] at h
    refine lv_iload_n X.1 X.2.1 dX9_entry_87 rfl (lv_at hl 3 rfl) ?_
    refine lv_iload X.1 X.2.1 dX9_entry_88 (lv_at hl 5 rfl) ?_
    refine lv_iconst (v := (2 : Int32)) X.1 X.2.1 dX9_entry_90 (by decide) ?_
    refine lv_ishl X.1 X.2.1 dX9_entry_91 ?_
    refine lv_ior X.1 X.2.1 dX9_entry_92 ?_
    refine lv_iload X.1 X.2.1 dX9_entry_93 (lv_at hl 4 rfl) ?_
    refine lv_bipush (v := (6 : Int32)) X.1 X.2.1 dX9_entry_95 (by decide) ?_
    refine lv_ishl X.1 X.2.1 dX9_entry_97 ?_
    refine lv_ior X.1 X.2.1 dX9_entry_98 ?_
    exact wX9_entry_b99 X M w (lv_sub hl [0, 1, 2] rfl) h
  · rw [if_pos c1] at h
    refine lv_iconst (v := (0 : Int32)) X.1 X.2.1 dX9_entry_83 (by decide) ?_
    refine lv_goto (tgt := 99) X.1 X.2.1 dX9_entry_84 (by decide) ?_
    exact wX9_entry_b99 X M w (lv_sub hl [0, 1, 2] rfl) h
def fX9_entry_b47  (mem : Mm) (x1 : Int32) (x2 : Int32) (x3 : Int32) (x4 : Int32) (x5 : Int32) (s0 : Int32) : Option (Mm × Int32) :=
  if (fX9_isEntry x1 x2) = 0 then some (mem, (-1 : Int32)) else if s0 = 0 then some (mem, (-1 : Int32)) else if x3 ≤ 0 then fX9_entry_b79 mem x1 x2 x3 x4 x5 else if (fX9_within x5 (0 : Int32) (15 : Int32)) = 0 then some (mem, (-1 : Int32)) else fX9_entry_b79 mem x1 x2 x3 x4 x5
set_option maxRecDepth 100000 in
set_option maxHeartbeats 4000000 in
theorem wX9_entry_b47 {p : Program} {l : Launch} {e : Env} {s : State} {m : MethodId} {args : Array Value} {below : List Frame} {meth : Method} {c : Code} {D : va_G} {ca : Nat → ClassId} {ad : Nat → Nat} {H : Heap} {locs : List Loc} {ls : Array Slot} {mem : Mm} {x1 : Int32} {x2 : Int32} {x3 : Int32} {x4 : Int32} {x5 : Int32} {s0 : Int32}  {mem' : Mm} {r : Int32} (X : CallFix p m c cX9_entry 10 s args TT RX9) (M : Mt meth (some .int))   (w : Wd D ca ad layM (AA ad layM.length) s.heap s mem H locs) (hl : lv_has ls 10 [(0, .ref (ad 0)), (1, .int x1), (2, .int x2), (3, .int x3), (4, .int x4), (5, .int x5)]) (h : fX9_entry_b47  mem x1 x2 x3 x4 x5 s0 = some (mem', r)) : W p l e (rmx 2 43) s m args below meth c H locs 0 0 (EndI D ca ad layM mem' r below args s) (F0 m 47 ls [.int s0]) := by
  unfold fX9_entry_b47 at h
  refine lv_istore (lv' := [(6, .int s0), (0, .ref (ad 0)), (1, .int x1), (2, .int x2), (3, .int x3), (4, .int x4), (5, .int x5)]) X.1 X.2.1 dX9_entry_47 hl (by decide) rfl (fun ls hl => ?_)
  refine lv_iload_n X.1 X.2.1 dX9_entry_49 rfl (lv_at hl 2 rfl) ?_
  refine lv_iload_n X.1 X.2.1 dX9_entry_50 rfl (lv_at hl 3 rfl) ?_
  refine r_cSi (As := [.int x1, .int x2]) (rest := []) X w (kX9_isEntry  l D ca ad mem x1 x2  rfl) (gTS tw_986 tw_987 tw_75 tw_988) hdX9_isEntry (by decide) rfl hl.1 rfl (Nat.le_of_ble_eq_true rfl) dX9_entry_51 ⟨Nat.zero_le _, Nat.zero_le _⟩ (fun H locs w => ?_)
  refine lv_if_eq (tgt := 77) X.1 X.2.1 dX9_entry_54 (by decide) (fun c1 => ?_) (fun c1 => ?_)
  · rw [if_pos c1] at h
    refine lv_iconst (v := (-1 : Int32)) X.1 X.2.1 dX9_entry_77 (by decide) ?_
    obtain ⟨rfl, rfl⟩ := Prod.mk.inj (Option.some.inj h)
    exact r_iret X M w dX9_entry_78
  · rw [if_neg c1] at h
    refine lv_iload X.1 X.2.1 dX9_entry_57 (lv_at hl 0 rfl) ?_
    refine lv_if_eq (tgt := 77) X.1 X.2.1 dX9_entry_59 (by decide) (fun c2 => ?_) (fun c2 => ?_)
    · rw [if_pos c2] at h
      refine lv_iconst (v := (-1 : Int32)) X.1 X.2.1 dX9_entry_77 (by decide) ?_
      obtain ⟨rfl, rfl⟩ := Prod.mk.inj (Option.some.inj h)
      exact r_iret X M w dX9_entry_78
    · rw [if_neg c2] at h
      refine lv_iload_n X.1 X.2.1 dX9_entry_62 rfl (lv_at hl 4 rfl) ?_
      refine lv_if_le (tgt := 79) X.1 X.2.1 dX9_entry_63 (by decide) (fun c3 => ?_) (fun c3 => ?_)
      · rw [if_pos c3] at h
        exact wX9_entry_b79 X M w (lv_sub hl [1, 2, 3, 4, 5, 6] rfl) h
      · rw [if_neg c3] at h
        refine lv_iload X.1 X.2.1 dX9_entry_66 (lv_at hl 6 rfl) ?_
        refine lv_iconst (v := (0 : Int32)) X.1 X.2.1 dX9_entry_68 (by decide) ?_
        refine lv_bipush (v := (15 : Int32)) X.1 X.2.1 dX9_entry_69 (by decide) ?_
        refine r_cSi (As := [.int x5, .int (0 : Int32), .int (15 : Int32)]) (rest := []) X w (kX9_within  l D ca ad mem x5 (0 : Int32) (15 : Int32)  rfl) (gTS tw_983 tw_984 tw_75 tw_985) hdX9_within (by decide) rfl hl.1 rfl (Nat.le_of_ble_eq_true rfl) dX9_entry_71 ⟨Nat.zero_le _, Nat.zero_le _⟩ (fun H locs w => ?_)
        refine lv_if_ne (tgt := 79) X.1 X.2.1 dX9_entry_74 (by decide) (fun c4 => ?_) (fun c4 => ?_)
        · rw [if_neg c4] at h
          exact wX9_entry_b79 X M w (lv_sub hl [1, 2, 3, 4, 5, 6] rfl) h
        · rw [if_pos c4] at h
          refine lv_iconst (v := (-1 : Int32)) X.1 X.2.1 dX9_entry_77 (by decide) ?_
          obtain ⟨rfl, rfl⟩ := Prod.mk.inj (Option.some.inj h)
          exact r_iret X M w dX9_entry_78
def fX9_entry_b25  (mem : Mm) (x1 : Int32) (x2 : Int32) (x3 : Int32) (x4 : Int32) (x5 : Int32) : Option (Mm × Int32) :=
  if x3 = (2 : Int32) then if (fX9_within x4 (0 : Int32) (999 : Int32)) = 0 then fX9_entry_b47 mem x1 x2 x3 x4 x5 (0 : Int32) else fX9_entry_b47 mem x1 x2 x3 x4 x5 (1 : Int32) else fX9_entry_b47 mem x1 x2 x3 x4 x5 (0 : Int32)
set_option maxRecDepth 100000 in
set_option maxHeartbeats 4000000 in
theorem wX9_entry_b25 {p : Program} {l : Launch} {e : Env} {s : State} {m : MethodId} {args : Array Value} {below : List Frame} {meth : Method} {c : Code} {D : va_G} {ca : Nat → ClassId} {ad : Nat → Nat} {H : Heap} {locs : List Loc} {ls : Array Slot} {mem : Mm} {x1 : Int32} {x2 : Int32} {x3 : Int32} {x4 : Int32} {x5 : Int32}  {mem' : Mm} {r : Int32} (X : CallFix p m c cX9_entry 10 s args TT RX9) (M : Mt meth (some .int))   (w : Wd D ca ad layM (AA ad layM.length) s.heap s mem H locs) (hl : lv_has ls 10 [(0, .ref (ad 0)), (1, .int x1), (2, .int x2), (3, .int x3), (4, .int x4), (5, .int x5)]) (h : fX9_entry_b25  mem x1 x2 x3 x4 x5 = some (mem', r)) : W p l e (rmx 2 43) s m args below meth c H locs 0 0 (EndI D ca ad layM mem' r below args s) (F0 m 25 ls []) := by
  unfold fX9_entry_b25 at h
  refine lv_iload_n X.1 X.2.1 dX9_entry_25 rfl (lv_at hl 3 rfl) ?_
  refine lv_iconst (v := (2 : Int32)) X.1 X.2.1 dX9_entry_26 (by decide) ?_
  refine lv_icmp_ne (tgt := 46) X.1 X.2.1 dX9_entry_27 (by decide) (fun c1 => ?_) (fun c1 => ?_)
  · rw [if_neg c1] at h
    refine lv_iconst (v := (0 : Int32)) X.1 X.2.1 dX9_entry_46 (by decide) ?_
    exact wX9_entry_b47 X M w (lv_sub hl [0, 1, 2, 3, 4, 5] rfl) h
  · rw [if_pos c1] at h
    refine lv_iload X.1 X.2.1 dX9_entry_30 (lv_at hl 4 rfl) ?_
    refine lv_iconst (v := (0 : Int32)) X.1 X.2.1 dX9_entry_32 (by decide) ?_
    refine lv_sipush (v := (999 : Int32)) X.1 X.2.1 dX9_entry_33 (by decide) ?_
    refine r_cSi (As := [.int x4, .int (0 : Int32), .int (999 : Int32)]) (rest := []) X w (kX9_within  l D ca ad mem x4 (0 : Int32) (999 : Int32)  rfl) (gTS tw_983 tw_984 tw_75 tw_985) hdX9_within (by decide) rfl hl.1 rfl (Nat.le_of_ble_eq_true rfl) dX9_entry_36 ⟨Nat.zero_le _, Nat.zero_le _⟩ (fun H locs w => ?_)
    refine lv_if_eq (tgt := 46) X.1 X.2.1 dX9_entry_39 (by decide) (fun c2 => ?_) (fun c2 => ?_)
    · rw [if_pos c2] at h
      refine lv_iconst (v := (0 : Int32)) X.1 X.2.1 dX9_entry_46 (by decide) ?_
      exact wX9_entry_b47 X M w (lv_sub hl [0, 1, 2, 3, 4, 5] rfl) h
    · rw [if_neg c2] at h
      refine lv_iconst (v := (1 : Int32)) X.1 X.2.1 dX9_entry_42 (by decide) ?_
      refine lv_goto (tgt := 47) X.1 X.2.1 dX9_entry_43 (by decide) ?_
      exact wX9_entry_b47 X M w (lv_sub hl [0, 1, 2, 3, 4, 5] rfl) h
def fX9_entry (mem : Mm) (a1 : Int32) (a2 : Int32) (a3 : Int32) (a4 : Int32) (a5 : Int32) : Option (Mm × Int32) :=
  wk mem 0 0 (0 : Int32) (fun m1 => if a3 = 0 then fX9_entry_b47 m1 a1 a2 a3 a4 a5 (1 : Int32) else if a3 = (1 : Int32) then if (fX9_within a4 (0 : Int32) (11 : Int32)) = 0 then fX9_entry_b25 m1 a1 a2 a3 a4 a5 else fX9_entry_b47 m1 a1 a2 a3 a4 a5 (1 : Int32) else fX9_entry_b25 m1 a1 a2 a3 a4 a5)
set_option maxRecDepth 100000 in
set_option maxHeartbeats 4000000 in
theorem kX9_entry (l : Launch) (D : va_G) (ca : Nat → ClassId) (ad : Nat → Nat) (mem : Mm) (a1 : Int32) (a2 : Int32) (a3 : Int32) (a4 : Int32) (a5 : Int32)  {mem' : Mm} {r : Int32} (h : fX9_entry mem a1 a2 a3 a4 a5 = some (mem', r)) : CtI l yX9_entry cX9_entry 10 (some .int) (rmx 2 43) D ca ad layM mem [.ref (ad 0), .int a1, .int a2, .int a3, .int a4, .int a5] mem' r := by
  refine CtI.of (by decide) (Nat.le_of_ble_eq_true rfl) ?_
  intro p e s m args below meth c H locs ls X M w hl
  replace X : CallFix p m c cX9_entry 10 s args TT RX9 := X
  replace hl : lv_has ls 10 [(0, .ref (ad 0)), (1, .int a1), (2, .int a2), (3, .int a3), (4, .int a4), (5, .int a5)] := hl
  unfold fX9_entry at h
  refine lv_aload_n X.1 X.2.1 dX9_entry_0 rfl (lv_at hl 0 rfl) ?_
  refine lv_iconst (v := (0 : Int32)) X.1 X.2.1 dX9_entry_1 (by decide) ?_
  refine r_put X w lyM_0 rfl inT9 tyX9 tyX9_ok nmX9 0 rfl (by decide) rfl rfl tw_902 rfl rfl dX9_entry_2 (fun H locs w => ?_)
  obtain ⟨m1, em1, h⟩ := wk_some h
  rw [em1] at w
  refine lv_iload_n X.1 X.2.1 dX9_entry_5 rfl (lv_at hl 3 rfl) ?_
  refine lv_if_eq (tgt := 42) X.1 X.2.1 dX9_entry_6 (by decide) (fun c2 => ?_) (fun c2 => ?_)
  · rw [if_pos c2] at h
    refine lv_iconst (v := (1 : Int32)) X.1 X.2.1 dX9_entry_42 (by decide) ?_
    refine lv_goto (tgt := 47) X.1 X.2.1 dX9_entry_43 (by decide) ?_
    exact wX9_entry_b47 X M w (lv_sub hl [0, 1, 2, 3, 4, 5] rfl) h
  · rw [if_neg c2] at h
    refine lv_iload_n X.1 X.2.1 dX9_entry_9 rfl (lv_at hl 3 rfl) ?_
    refine lv_iconst (v := (1 : Int32)) X.1 X.2.1 dX9_entry_10 (by decide) ?_
    refine lv_icmp_ne (tgt := 25) X.1 X.2.1 dX9_entry_11 (by decide) (fun c3 => ?_) (fun c3 => ?_)
    · rw [if_neg c3] at h
      exact wX9_entry_b25 X M w (lv_sub hl [0, 1, 2, 3, 4, 5] rfl) h
    · rw [if_pos c3] at h
      refine lv_iload X.1 X.2.1 dX9_entry_14 (lv_at hl 4 rfl) ?_
      refine lv_iconst (v := (0 : Int32)) X.1 X.2.1 dX9_entry_16 (by decide) ?_
      refine lv_bipush (v := (11 : Int32)) X.1 X.2.1 dX9_entry_17 (by decide) ?_
      refine r_cSi (As := [.int a4, .int (0 : Int32), .int (11 : Int32)]) (rest := []) X w (kX9_within  l D ca ad m1 a4 (0 : Int32) (11 : Int32)  rfl) (gTS tw_983 tw_984 tw_75 tw_985) hdX9_within (by decide) rfl hl.1 rfl (Nat.le_of_ble_eq_true rfl) dX9_entry_19 ⟨Nat.zero_le _, Nat.zero_le _⟩ (fun H locs w => ?_)
      refine lv_if_ne (tgt := 42) X.1 X.2.1 dX9_entry_22 (by decide) (fun c4 => ?_) (fun c4 => ?_)
      · rw [if_neg c4] at h
        refine lv_iconst (v := (1 : Int32)) X.1 X.2.1 dX9_entry_42 (by decide) ?_
        refine lv_goto (tgt := 47) X.1 X.2.1 dX9_entry_43 (by decide) ?_
        exact wX9_entry_b47 X M w (lv_sub hl [0, 1, 2, 3, 4, 5] rfl) h
      · rw [if_pos c4] at h
        exact wX9_entry_b25 X M w (lv_sub hl [0, 1, 2, 3, 4, 5] rfl) h
/-! WalkHouseModel.marks(III)I (W) -/
theorem hdX9_marks : yX9_marks.cls = RX9 ∧ yX9_marks.cls ≠ "java/lang/invoke/MethodHandle" ∧ yX9_marks.cls ≠ "java/lang/invoke/VarHandle" ∧ (parseMethodDescriptor yX9_marks.desc).map (fun d => d.parameters.length) = some 3 := by decide +kernel
def fX9_marks (mem : Mm) (a1 : Int32) (a2 : Int32) (a3 : Int32) : Option (Mm × Int32) :=
  wk mem 0 0 (0 : Int32) (fun m1 => if (fX9_isEntry a1 a2) = 0 then some (m1, (-1 : Int32)) else if (fX9_within a3 (0 : Int32) (3 : Int32)) = 0 then some (m1, (-1 : Int32)) else gd (((0 : Int32) + ((8 : Int32) * a1)) + a2) 345 (if (fX9_whatOf (m1 1 (((0 : Int32) + ((8 : Int32) * a1)) + a2).toNatClampNeg)) = 0 then some (m1, (-1 : Int32)) else gd (((96 : Int32) + ((8 : Int32) * a1)) + a2) 345 (lk (m1 1 (((96 : Int32) + ((8 : Int32) * a1)) + a2).toNatClampNeg) (fun x_7 => gd (((96 : Int32) + ((8 : Int32) * a1)) + a2) 345 (wk m1 1 (((96 : Int32) + ((8 : Int32) * a1)) + a2).toNatClampNeg a3 (fun m9 => some (m9, x_7)))))))
set_option maxRecDepth 100000 in
set_option maxHeartbeats 4000000 in
theorem kX9_marks (l : Launch) (D : va_G) (ca : Nat → ClassId) (ad : Nat → Nat) (mem : Mm) (a1 : Int32) (a2 : Int32) (a3 : Int32)  {mem' : Mm} {r : Int32} (h : fX9_marks mem a1 a2 a3 = some (mem', r)) : CtI l yX9_marks cX9_marks 5 (some .int) (rmx 2 43) D ca ad layM mem [.ref (ad 0), .int a1, .int a2, .int a3] mem' r := by
  refine CtI.of (by decide) (Nat.le_of_ble_eq_true rfl) ?_
  intro p e s m args below meth c H locs ls X M w hl
  replace X : CallFix p m c cX9_marks 5 s args TT RX9 := X
  replace hl : lv_has ls 5 [(0, .ref (ad 0)), (1, .int a1), (2, .int a2), (3, .int a3)] := hl
  unfold fX9_marks at h
  refine lv_aload_n X.1 X.2.1 dX9_marks_0 rfl (lv_at hl 0 rfl) ?_
  refine lv_iconst (v := (0 : Int32)) X.1 X.2.1 dX9_marks_1 (by decide) ?_
  refine r_put X w lyM_0 rfl inT9 tyX9 tyX9_ok nmX9 0 rfl (by decide) rfl rfl tw_902 rfl rfl dX9_marks_2 (fun H locs w => ?_)
  obtain ⟨m1, em1, h⟩ := wk_some h
  rw [em1] at w
  refine lv_iload_n X.1 X.2.1 dX9_marks_5 rfl (lv_at hl 1 rfl) ?_
  refine lv_iload_n X.1 X.2.1 dX9_marks_6 rfl (lv_at hl 2 rfl) ?_
  refine r_cSi (As := [.int a1, .int a2]) (rest := []) X w (kX9_isEntry  l D ca ad m1 a1 a2  rfl) (gTS tw_986 tw_987 tw_75 tw_988) hdX9_isEntry (by decide) rfl hl.1 rfl (Nat.le_of_ble_eq_true rfl) dX9_marks_7 ⟨Nat.zero_le _, Nat.zero_le _⟩ (fun H locs w => ?_)
  refine lv_if_eq (tgt := 41) X.1 X.2.1 dX9_marks_10 (by decide) (fun c2 => ?_) (fun c2 => ?_)
  · rw [if_pos c2] at h
    refine lv_iconst (v := (-1 : Int32)) X.1 X.2.1 dX9_marks_41 (by decide) ?_
    obtain ⟨rfl, rfl⟩ := Prod.mk.inj (Option.some.inj h)
    exact r_iret X M w dX9_marks_42
  · rw [if_neg c2] at h
    refine lv_iload_n X.1 X.2.1 dX9_marks_13 rfl (lv_at hl 3 rfl) ?_
    refine lv_iconst (v := (0 : Int32)) X.1 X.2.1 dX9_marks_14 (by decide) ?_
    refine lv_iconst (v := (3 : Int32)) X.1 X.2.1 dX9_marks_15 (by decide) ?_
    refine r_cSi (As := [.int a3, .int (0 : Int32), .int (3 : Int32)]) (rest := []) X w (kX9_within  l D ca ad m1 a3 (0 : Int32) (3 : Int32)  rfl) (gTS tw_983 tw_984 tw_75 tw_985) hdX9_within (by decide) rfl hl.1 rfl (Nat.le_of_ble_eq_true rfl) dX9_marks_16 ⟨Nat.zero_le _, Nat.zero_le _⟩ (fun H locs w => ?_)
    refine lv_if_eq (tgt := 41) X.1 X.2.1 dX9_marks_19 (by decide) (fun c3 => ?_) (fun c3 => ?_)
    · rw [if_pos c3] at h
      refine lv_iconst (v := (-1 : Int32)) X.1 X.2.1 dX9_marks_41 (by decide) ?_
      obtain ⟨rfl, rfl⟩ := Prod.mk.inj (Option.some.inj h)
      exact r_iret X M w dX9_marks_42
    · rw [if_neg c3] at h
      refine lv_aload_n X.1 X.2.1 dX9_marks_22 rfl (lv_at hl 0 rfl) ?_
      refine r_getr (b2 := 1) X w lyM_0 rfl inT9 1 rfl rfl (by decide) rfl tw_903 dX9_marks_23 ?_
      refine lv_iconst (v := (0 : Int32)) X.1 X.2.1 dX9_marks_26 (by decide) ?_
      refine lv_bipush (v := (8 : Int32)) X.1 X.2.1 dX9_marks_27 (by decide) ?_
      refine lv_iload_n X.1 X.2.1 dX9_marks_29 rfl (lv_at hl 1 rfl) ?_
      refine lv_imul X.1 X.2.1 dX9_marks_30 ?_
      refine lv_iadd X.1 X.2.1 dX9_marks_31 ?_
      refine lv_iload_n X.1 X.2.1 dX9_marks_32 rfl (lv_at hl 2 rfl) ?_
      refine lv_iadd X.1 X.2.1 dX9_marks_33 ?_
      obtain ⟨hi4, h⟩ := gd_some h
      refine r_iald X w lyM_1 hi4 dX9_marks_34 ?_
      refine r_cSi (As := [.int (m1 1 (((0 : Int32) + ((8 : Int32) * a1)) + a2).toNatClampNeg)]) (rest := []) X w (kX9_whatOf  l D ca ad m1 (m1 1 (((0 : Int32) + ((8 : Int32) * a1)) + a2).toNatClampNeg)  rfl) (gTS tw_993 tw_994 tw_75 tw_995) hdX9_whatOf (by decide) rfl hl.1 rfl (Nat.le_of_ble_eq_true rfl) dX9_marks_35 ⟨Nat.zero_le _, Nat.zero_le _⟩ (fun H locs w => ?_)
      refine lv_if_ne (tgt := 43) X.1 X.2.1 dX9_marks_38 (by decide) (fun c5 => ?_) (fun c5 => ?_)
      · rw [if_neg c5] at h
        refine lv_aload_n X.1 X.2.1 dX9_marks_43 rfl (lv_at hl 0 rfl) ?_
        refine r_getr (b2 := 1) X w lyM_0 rfl inT9 1 rfl rfl (by decide) rfl tw_903 dX9_marks_44 ?_
        refine lv_bipush (v := (96 : Int32)) X.1 X.2.1 dX9_marks_47 (by decide) ?_
        refine lv_bipush (v := (8 : Int32)) X.1 X.2.1 dX9_marks_49 (by decide) ?_
        refine lv_iload_n X.1 X.2.1 dX9_marks_51 rfl (lv_at hl 1 rfl) ?_
        refine lv_imul X.1 X.2.1 dX9_marks_52 ?_
        refine lv_iadd X.1 X.2.1 dX9_marks_53 ?_
        refine lv_iload_n X.1 X.2.1 dX9_marks_54 rfl (lv_at hl 2 rfl) ?_
        refine lv_iadd X.1 X.2.1 dX9_marks_55 ?_
        obtain ⟨hi6, h⟩ := gd_some h
        refine r_iald X w lyM_1 hi6 dX9_marks_56 ?_
        obtain ⟨x_7, ex_7, h⟩ := lk_some h
        refine lv_name ex_7 ?_
        refine lv_istore (lv' := [(4, .int x_7), (0, .ref (ad 0)), (1, .int a1), (2, .int a2), (3, .int a3)]) X.1 X.2.1 dX9_marks_57 hl (by decide) rfl (fun ls hl => ?_)
        refine lv_aload_n X.1 X.2.1 dX9_marks_59 rfl (lv_at hl 1 rfl) ?_
        refine r_getr (b2 := 1) X w lyM_0 rfl inT9 1 rfl rfl (by decide) rfl tw_903 dX9_marks_60 ?_
        refine lv_bipush (v := (96 : Int32)) X.1 X.2.1 dX9_marks_63 (by decide) ?_
        refine lv_bipush (v := (8 : Int32)) X.1 X.2.1 dX9_marks_65 (by decide) ?_
        refine lv_iload_n X.1 X.2.1 dX9_marks_67 rfl (lv_at hl 2 rfl) ?_
        refine lv_imul X.1 X.2.1 dX9_marks_68 ?_
        refine lv_iadd X.1 X.2.1 dX9_marks_69 ?_
        refine lv_iload_n X.1 X.2.1 dX9_marks_70 rfl (lv_at hl 3 rfl) ?_
        refine lv_iadd X.1 X.2.1 dX9_marks_71 ?_
        refine lv_iload_n X.1 X.2.1 dX9_marks_72 rfl (lv_at hl 4 rfl) ?_
        obtain ⟨hi8, h⟩ := gd_some h
        refine r_iast X w lyM_1 hi8 dX9_marks_73 (fun H locs w => ?_)
        obtain ⟨m9, em9, h⟩ := wk_some h
        rw [em9] at w
        refine lv_iload X.1 X.2.1 dX9_marks_74 (lv_at hl 0 rfl) ?_
        obtain ⟨rfl, rfl⟩ := Prod.mk.inj (Option.some.inj h)
        exact r_iret X M w dX9_marks_76
      · rw [if_pos c5] at h
        refine lv_iconst (v := (-1 : Int32)) X.1 X.2.1 dX9_marks_41 (by decide) ?_
        obtain ⟨rfl, rfl⟩ := Prod.mk.inj (Option.some.inj h)
        exact r_iret X M w dX9_marks_42
/-! WalkHouseModel.root(II)I (W) -/
theorem hdX9_root : yX9_root.cls = RX9 ∧ yX9_root.cls ≠ "java/lang/invoke/MethodHandle" ∧ yX9_root.cls ≠ "java/lang/invoke/VarHandle" ∧ (parseMethodDescriptor yX9_root.desc).map (fun d => d.parameters.length) = some 2 := by decide +kernel
def fX9_root (mem : Mm) (a1 : Int32) (a2 : Int32) : Option (Mm × Int32) :=
  wk mem 0 0 (0 : Int32) (fun m1 => if (fX9_isSpace a1) = 0 then some (m1, (-2 : Int32)) else if (fX9_within a2 (-1 : Int32) (11 : Int32)) = 0 then some (m1, (-2 : Int32)) else gd ((326 : Int32) + a1) 345 (lk (m1 1 ((326 : Int32) + a1).toNatClampNeg) (fun x_5 => if x_5 = a2 then some (m1, x_5) else bw (fX9_remembers m1 ((96 : Int32) + a1) x_5) (fun m8 r7 => gd ((326 : Int32) + a1) 345 (wk m8 1 ((326 : Int32) + a1).toNatClampNeg a2 (fun m10 => some (m10, x_5)))))))
set_option maxRecDepth 100000 in
set_option maxHeartbeats 4000000 in
theorem kX9_root (l : Launch) (D : va_G) (ca : Nat → ClassId) (ad : Nat → Nat) (mem : Mm) (a1 : Int32) (a2 : Int32)  {mem' : Mm} {r : Int32} (h : fX9_root mem a1 a2 = some (mem', r)) : CtI l yX9_root cX9_root 4 (some .int) (rmx 2 42) D ca ad layM mem [.ref (ad 0), .int a1, .int a2] mem' r := by
  refine CtI.of (by decide) (Nat.le_of_ble_eq_true rfl) ?_
  intro p e s m args below meth c H locs ls X M w hl
  replace X : CallFix p m c cX9_root 4 s args TT RX9 := X
  replace hl : lv_has ls 4 [(0, .ref (ad 0)), (1, .int a1), (2, .int a2)] := hl
  unfold fX9_root at h
  refine lv_aload_n X.1 X.2.1 dX9_root_0 rfl (lv_at hl 0 rfl) ?_
  refine lv_iconst (v := (0 : Int32)) X.1 X.2.1 dX9_root_1 (by decide) ?_
  refine r_put X w lyM_0 rfl inT9 tyX9 tyX9_ok nmX9 0 rfl (by decide) rfl rfl tw_902 rfl rfl dX9_root_2 (fun H locs w => ?_)
  obtain ⟨m1, em1, h⟩ := wk_some h
  rw [em1] at w
  refine lv_iload_n X.1 X.2.1 dX9_root_5 rfl (lv_at hl 1 rfl) ?_
  refine r_cSi (As := [.int a1]) (rest := []) X w (kX9_isSpace  l D ca ad m1 a1  rfl) (gTS tw_1004 tw_1005 tw_75 tw_1006) hdX9_isSpace (by decide) rfl hl.1 rfl (Nat.le_of_ble_eq_true rfl) dX9_root_6 ⟨Nat.zero_le _, Nat.zero_le _⟩ (fun H locs w => ?_)
  refine lv_if_eq (tgt := 22) X.1 X.2.1 dX9_root_9 (by decide) (fun c2 => ?_) (fun c2 => ?_)
  · rw [if_pos c2] at h
    refine lv_bipush (v := (-2 : Int32)) X.1 X.2.1 dX9_root_22 (by decide) ?_
    obtain ⟨rfl, rfl⟩ := Prod.mk.inj (Option.some.inj h)
    exact r_iret X M w dX9_root_24
  · rw [if_neg c2] at h
    refine lv_iload_n X.1 X.2.1 dX9_root_12 rfl (lv_at hl 2 rfl) ?_
    refine lv_iconst (v := (-1 : Int32)) X.1 X.2.1 dX9_root_13 (by decide) ?_
    refine lv_bipush (v := (11 : Int32)) X.1 X.2.1 dX9_root_14 (by decide) ?_
    refine r_cSi (As := [.int a2, .int (-1 : Int32), .int (11 : Int32)]) (rest := []) X w (kX9_within  l D ca ad m1 a2 (-1 : Int32) (11 : Int32)  rfl) (gTS tw_983 tw_984 tw_75 tw_985) hdX9_within (by decide) rfl hl.1 rfl (Nat.le_of_ble_eq_true rfl) dX9_root_16 ⟨Nat.zero_le _, Nat.zero_le _⟩ (fun H locs w => ?_)
    refine lv_if_ne (tgt := 25) X.1 X.2.1 dX9_root_19 (by decide) (fun c3 => ?_) (fun c3 => ?_)
    · rw [if_neg c3] at h
      refine lv_aload_n X.1 X.2.1 dX9_root_25 rfl (lv_at hl 0 rfl) ?_
      refine r_getr (b2 := 1) X w lyM_0 rfl inT9 1 rfl rfl (by decide) rfl tw_903 dX9_root_26 ?_
      refine lv_sipush (v := (326 : Int32)) X.1 X.2.1 dX9_root_29 (by decide) ?_
      refine lv_iload_n X.1 X.2.1 dX9_root_32 rfl (lv_at hl 1 rfl) ?_
      refine lv_iadd X.1 X.2.1 dX9_root_33 ?_
      obtain ⟨hi4, h⟩ := gd_some h
      refine r_iald X w lyM_1 hi4 dX9_root_34 ?_
      obtain ⟨x_5, ex_5, h⟩ := lk_some h
      refine lv_name ex_5 ?_
      refine lv_istore_n (lv' := [(3, .int x_5), (0, .ref (ad 0)), (1, .int a1), (2, .int a2)]) X.1 X.2.1 dX9_root_35 rfl hl (by decide) rfl (fun ls hl => ?_)
      refine lv_iload_n X.1 X.2.1 dX9_root_36 rfl (lv_at hl 0 rfl) ?_
      refine lv_iload_n X.1 X.2.1 dX9_root_37 rfl (lv_at hl 3 rfl) ?_
      refine lv_icmp_eq (tgt := 61) X.1 X.2.1 dX9_root_38 (by decide) (fun c6 => ?_) (fun c6 => ?_)
      · rw [if_pos c6] at h
        refine lv_iload_n X.1 X.2.1 dX9_root_61 rfl (lv_at hl 0 rfl) ?_
        obtain ⟨rfl, rfl⟩ := Prod.mk.inj (Option.some.inj h)
        exact r_iret X M w dX9_root_62
      · rw [if_neg c6] at h
        refine lv_aload_n X.1 X.2.1 dX9_root_41 rfl (lv_at hl 1 rfl) ?_
        refine lv_bipush (v := (96 : Int32)) X.1 X.2.1 dX9_root_42 (by decide) ?_
        refine lv_iload_n X.1 X.2.1 dX9_root_44 rfl (lv_at hl 2 rfl) ?_
        refine lv_iadd X.1 X.2.1 dX9_root_45 ?_
        refine lv_iload_n X.1 X.2.1 dX9_root_46 rfl (lv_at hl 0 rfl) ?_
        obtain ⟨m8, r7, hr7, h⟩ := bw_some h
        refine r_cVv (As := [.int ((96 : Int32) + a1), .int x_5]) (rest := []) X w lyM_0 rfl (kX9_remembers  l D ca ad m1 ((96 : Int32) + a1) x_5  hr7) (gTV tw_989 tw_991 tw_27 tw_75 tw_992) hdX9_remembers (by decide) rfl hl.1 rfl (Nat.le_of_ble_eq_true rfl) dX9_root_47 ⟨Nat.zero_le _, Nat.zero_le _⟩ (fun H locs w => ?_)
        refine lv_aload_n X.1 X.2.1 dX9_root_50 rfl (lv_at hl 1 rfl) ?_
        refine r_getr (b2 := 1) X w lyM_0 rfl inT9 1 rfl rfl (by decide) rfl tw_903 dX9_root_51 ?_
        refine lv_sipush (v := (326 : Int32)) X.1 X.2.1 dX9_root_54 (by decide) ?_
        refine lv_iload_n X.1 X.2.1 dX9_root_57 rfl (lv_at hl 2 rfl) ?_
        refine lv_iadd X.1 X.2.1 dX9_root_58 ?_
        refine lv_iload_n X.1 X.2.1 dX9_root_59 rfl (lv_at hl 3 rfl) ?_
        obtain ⟨hi9, h⟩ := gd_some h
        refine r_iast X w lyM_1 hi9 dX9_root_60 (fun H locs w => ?_)
        obtain ⟨m10, em10, h⟩ := wk_some h
        rw [em10] at w
        refine lv_iload_n X.1 X.2.1 dX9_root_61 rfl (lv_at hl 0 rfl) ?_
        obtain ⟨rfl, rfl⟩ := Prod.mk.inj (Option.some.inj h)
        exact r_iret X M w dX9_root_62
    · rw [if_pos c3] at h
      refine lv_bipush (v := (-2 : Int32)) X.1 X.2.1 dX9_root_22 (by decide) ?_
      obtain ⟨rfl, rfl⟩ := Prod.mk.inj (Option.some.inj h)
      exact r_iret X M w dX9_root_24
/-! WalkHouseModel.holder(I)I (R) -/
theorem hdX9_holder : yX9_holder.cls = RX9 ∧ yX9_holder.cls ≠ "java/lang/invoke/MethodHandle" ∧ yX9_holder.cls ≠ "java/lang/invoke/VarHandle" ∧ (parseMethodDescriptor yX9_holder.desc).map (fun d => d.parameters.length) = some 1 := by decide +kernel
def fX9_holder_b4_s  (k4 : Mm → Int32 → Int32 → Int32 → Option Int32) (mem : Mm) (x1 : Int32) (x2 : Int32) (x3 : Int32) : Option Int32 :=
  if (6 : Int32) ≤ x3 then some x2 else gd ((332 : Int32) + x3) 345 (if (mem 1 ((332 : Int32) + x3).toNatClampNeg) = x1 then k4 mem x1 x3 (x3 + (1 : Int32)) else k4 mem x1 x2 (x3 + (1 : Int32)))
def fX9_holder_b4  : Nat → Mm → Int32 → Int32 → Int32 → Option Int32
  | 0 => fun _ _ _ _ => none
  | n + 1 => fX9_holder_b4_s  (fX9_holder_b4  n)
set_option maxRecDepth 100000 in
set_option maxHeartbeats 4000000 in
theorem wX9_holder_b4_s {p : Program} {l : Launch} {e : Env} {s : State} {m : MethodId} {args : Array Value} {below : List Frame} {meth : Method} {c : Code} {D : va_G} {ca : Nat → ClassId} {ad : Nat → Nat} {H : Heap} {locs : List Loc} {ls : Array Slot} {mem : Mm} {x1 : Int32} {x2 : Int32} {x3 : Int32}  {k4 : Mm → Int32 → Int32 → Int32 → Option Int32} {r : Int32} (X : CallFix p m c cX9_holder 4 s args TT RX9) (M : Mt meth (some .int))  (hk4 : ∀ (x1 : Int32) (x2 : Int32) (x3 : Int32) (H : Heap) (locs : List Loc) (ls : Array Slot) , Wd D ca ad layM (AA ad layM.length) s.heap s mem H locs → lv_has ls 4 [(0, .ref (ad 0)), (1, .int x1), (2, .int x2), (3, .int x3)] → k4 mem x1 x2 x3 = some r → W p l e (rmx 0 0) s m args below meth c H locs 0 0 (EndI D ca ad layM mem r below args s) (F0 m 4 ls []))  (w : Wd D ca ad layM (AA ad layM.length) s.heap s mem H locs) (hl : lv_has ls 4 [(0, .ref (ad 0)), (1, .int x1), (2, .int x2), (3, .int x3)]) (h : fX9_holder_b4_s  k4 mem x1 x2 x3 = some r) : W p l e (rmx 0 0) s m args below meth c H locs 0 0 (EndI D ca ad layM mem r below args s) (F0 m 4 ls []) := by
  unfold fX9_holder_b4_s at h
  refine lv_iload_n X.1 X.2.1 dX9_holder_4 rfl (lv_at hl 3 rfl) ?_
  refine lv_bipush (v := (6 : Int32)) X.1 X.2.1 dX9_holder_5 (by decide) ?_
  refine lv_icmp_ge (tgt := 36) X.1 X.2.1 dX9_holder_7 (by decide) (fun c1 => ?_) (fun c1 => ?_)
  · rw [if_pos c1] at h
    refine lv_iload_n X.1 X.2.1 dX9_holder_36 rfl (lv_at hl 2 rfl) ?_
    obtain rfl := Option.some.inj h
    exact r_iret X M w dX9_holder_37
  · rw [if_neg c1] at h
    refine lv_aload_n X.1 X.2.1 dX9_holder_10 rfl (lv_at hl 0 rfl) ?_
    refine r_getr (b2 := 1) X w lyM_0 rfl inT9 1 rfl rfl (by decide) rfl tw_903 dX9_holder_11 ?_
    refine lv_sipush (v := (332 : Int32)) X.1 X.2.1 dX9_holder_14 (by decide) ?_
    refine lv_iload_n X.1 X.2.1 dX9_holder_17 rfl (lv_at hl 3 rfl) ?_
    refine lv_iadd X.1 X.2.1 dX9_holder_18 ?_
    obtain ⟨hi2, h⟩ := gd_some h
    refine r_iald X w lyM_1 hi2 dX9_holder_19 ?_
    refine lv_iload_n X.1 X.2.1 dX9_holder_20 rfl (lv_at hl 1 rfl) ?_
    refine lv_icmp_ne (tgt := 28) X.1 X.2.1 dX9_holder_21 (by decide) (fun c3 => ?_) (fun c3 => ?_)
    · rw [if_neg c3] at h
      refine lv_iload_n X.1 X.2.1 dX9_holder_28 rfl (lv_at hl 2 rfl) ?_
      refine lv_istore_n (lv' := [(2, .int x2), (0, .ref (ad 0)), (1, .int x1), (3, .int x3)]) X.1 X.2.1 dX9_holder_29 rfl hl (by decide) rfl (fun ls hl => ?_)
      refine lv_iinc (v := (x3 + (1 : Int32))) (lv' := [(3, .int (x3 + (1 : Int32))), (2, .int x2), (0, .ref (ad 0)), (1, .int x1)]) X.1 X.2.1 dX9_holder_30 hl (k := 3) rfl rfl (by decide) rfl (fun ls hl => ?_)
      refine lv_goto (tgt := 4) X.1 X.2.1 dX9_holder_33 (by decide) ?_
      exact hk4 _ _ _ H locs ls w (lv_sub hl [2, 3, 1, 0] rfl) h
    · rw [if_pos c3] at h
      refine lv_iload_n X.1 X.2.1 dX9_holder_24 rfl (lv_at hl 3 rfl) ?_
      refine lv_goto (tgt := 29) X.1 X.2.1 dX9_holder_25 (by decide) ?_
      refine lv_istore_n (lv' := [(2, .int x3), (0, .ref (ad 0)), (1, .int x1), (3, .int x3)]) X.1 X.2.1 dX9_holder_29 rfl hl (by decide) rfl (fun ls hl => ?_)
      refine lv_iinc (v := (x3 + (1 : Int32))) (lv' := [(3, .int (x3 + (1 : Int32))), (2, .int x3), (0, .ref (ad 0)), (1, .int x1)]) X.1 X.2.1 dX9_holder_30 hl (k := 3) rfl rfl (by decide) rfl (fun ls hl => ?_)
      refine lv_goto (tgt := 4) X.1 X.2.1 dX9_holder_33 (by decide) ?_
      exact hk4 _ _ _ H locs ls w (lv_sub hl [2, 3, 1, 0] rfl) h
set_option maxRecDepth 100000 in
set_option maxHeartbeats 4000000 in
theorem wX9_holder_b4 {p : Program} {l : Launch} {e : Env} {s : State} {m : MethodId} {args : Array Value} {below : List Frame} {meth : Method} {c : Code} {D : va_G} {ca : Nat → ClassId} {ad : Nat → Nat} {mem : Mm}  {r : Int32} (X : CallFix p m c cX9_holder 4 s args TT RX9) (M : Mt meth (some .int))  : ∀ (n : Nat) (x1 : Int32) (x2 : Int32) (x3 : Int32) (H : Heap) (locs : List Loc) (ls : Array Slot)  (_ : Wd D ca ad layM (AA ad layM.length) s.heap s mem H locs) (_ : lv_has ls 4 [(0, .ref (ad 0)), (1, .int x1), (2, .int x2), (3, .int x3)]) (_ : fX9_holder_b4  n mem x1 x2 x3 = some r), W p l e (rmx 0 0) s m args below meth c H locs 0 0 (EndI D ca ad layM mem r below args s) (F0 m 4 ls []) := by
  intro n
  induction n with
  | zero => intro x1 x2 x3 H locs ls  w hl h; exact (nofun : (none : Option Int32) = _ → _) h
  | succ n ih => intro x1 x2 x3 H locs ls  w hl h; exact wX9_holder_b4_s X M  ih  w hl h
def fX9_holder (mem : Mm) (a1 : Int32) : Option Int32 :=
  fX9_holder_b4 2000 mem a1 (-1 : Int32) (0 : Int32)
set_option maxRecDepth 100000 in
set_option maxHeartbeats 4000000 in
theorem kX9_holder (l : Launch) (D : va_G) (ca : Nat → ClassId) (ad : Nat → Nat) (mem : Mm) (a1 : Int32)  {r : Int32} (h : fX9_holder mem a1 = some r) : CtI l yX9_holder cX9_holder 4 (some .int) (rmx 0 0) D ca ad layM mem [.ref (ad 0), .int a1] mem r := by
  refine CtI.of (by decide) (Nat.le_of_ble_eq_true rfl) ?_
  intro p e s m args below meth c H locs ls X M w hl
  replace X : CallFix p m c cX9_holder 4 s args TT RX9 := X
  replace hl : lv_has ls 4 [(0, .ref (ad 0)), (1, .int a1)] := hl
  unfold fX9_holder at h
  refine lv_iconst (v := (-1 : Int32)) X.1 X.2.1 dX9_holder_0 (by decide) ?_
  refine lv_istore_n (lv' := [(2, .int (-1 : Int32)), (0, .ref (ad 0)), (1, .int a1)]) X.1 X.2.1 dX9_holder_1 rfl hl (by decide) rfl (fun ls hl => ?_)
  refine lv_iconst (v := (0 : Int32)) X.1 X.2.1 dX9_holder_2 (by decide) ?_
  refine lv_istore_n (lv' := [(3, .int (0 : Int32)), (2, .int (-1 : Int32)), (0, .ref (ad 0)), (1, .int a1)]) X.1 X.2.1 dX9_holder_3 rfl hl (by decide) rfl (fun ls hl => ?_)
  exact wX9_holder_b4 X M _ _ _ _ H locs ls w (lv_sub hl [2, 3, 1, 0] rfl) h
/-! WalkHouseModel.aborts(I)V (W) -/
theorem hdX9_aborts : yX9_aborts.cls = RX9 ∧ yX9_aborts.cls ≠ "java/lang/invoke/MethodHandle" ∧ yX9_aborts.cls ≠ "java/lang/invoke/VarHandle" ∧ (parseMethodDescriptor yX9_aborts.desc).map (fun d => d.parameters.length) = some 1 := by decide +kernel
def fX9_aborts (mem : Mm) (a1 : Int32) : Option (Mm × Unit) :=
  gd ((276 : Int32) + ((11 : Int32) * a1)) 345 (wk mem 1 ((276 : Int32) + ((11 : Int32) * a1)).toNatClampNeg (4 : Int32) (fun m2 => some (m2, ())))
set_option maxRecDepth 100000 in
set_option maxHeartbeats 4000000 in
theorem kX9_aborts (l : Launch) (D : va_G) (ca : Nat → ClassId) (ad : Nat → Nat) (mem : Mm) (a1 : Int32)  {mem' : Mm} {r : Unit} (h : fX9_aborts mem a1 = some (mem', r)) : CtV l yX9_aborts cX9_aborts 2 none (rmx 0 0) D ca ad layM mem [.ref (ad 0), .int a1] mem' := by
  refine CtV.of (by decide) (Nat.le_of_ble_eq_true rfl) ?_
  intro p e s m args below meth c H locs ls X M w hl
  replace X : CallFix p m c cX9_aborts 2 s args TT RX9 := X
  replace hl : lv_has ls 2 [(0, .ref (ad 0)), (1, .int a1)] := hl
  unfold fX9_aborts at h
  refine lv_aload_n X.1 X.2.1 dX9_aborts_0 rfl (lv_at hl 0 rfl) ?_
  refine r_getr (b2 := 1) X w lyM_0 rfl inT9 1 rfl rfl (by decide) rfl tw_903 dX9_aborts_1 ?_
  refine lv_sipush (v := (276 : Int32)) X.1 X.2.1 dX9_aborts_4 (by decide) ?_
  refine lv_bipush (v := (11 : Int32)) X.1 X.2.1 dX9_aborts_7 (by decide) ?_
  refine lv_iload_n X.1 X.2.1 dX9_aborts_9 rfl (lv_at hl 1 rfl) ?_
  refine lv_imul X.1 X.2.1 dX9_aborts_10 ?_
  refine lv_iadd X.1 X.2.1 dX9_aborts_11 ?_
  refine lv_iconst (v := (4 : Int32)) X.1 X.2.1 dX9_aborts_12 (by decide) ?_
  obtain ⟨hi1, h⟩ := gd_some h
  refine r_iast X w lyM_1 hi1 dX9_aborts_13 (fun H locs w => ?_)
  obtain ⟨m2, em2, h⟩ := wk_some h
  rw [em2] at w
  obtain ⟨rfl, -⟩ := Prod.mk.inj (Option.some.inj h)
  exact r_vret X M w dX9_aborts_14
/-! WalkHouseModel.isGoing(I)Z (R) -/
theorem hdX9_isGoing : yX9_isGoing.cls = RX9 ∧ yX9_isGoing.cls ≠ "java/lang/invoke/MethodHandle" ∧ yX9_isGoing.cls ≠ "java/lang/invoke/VarHandle" ∧ (parseMethodDescriptor yX9_isGoing.desc).map (fun d => d.parameters.length) = some 1 := by decide +kernel
def fX9_isGoing (mem : Mm) (a1 : Int32) : Option Int32 :=
  gd ((276 : Int32) + ((11 : Int32) * a1)) 345 (if (mem 1 ((276 : Int32) + ((11 : Int32) * a1)).toNatClampNeg) = (1 : Int32) then some (1 : Int32) else some (0 : Int32))
set_option maxRecDepth 100000 in
set_option maxHeartbeats 4000000 in
theorem kX9_isGoing (l : Launch) (D : va_G) (ca : Nat → ClassId) (ad : Nat → Nat) (mem : Mm) (a1 : Int32)  {r : Int32} (h : fX9_isGoing mem a1 = some r) : CtI l yX9_isGoing cX9_isGoing 2 (some .boolean) (rmx 0 0) D ca ad layM mem [.ref (ad 0), .int a1] mem r := by
  refine CtI.of (by decide) (Nat.le_of_ble_eq_true rfl) ?_
  intro p e s m args below meth c H locs ls X M w hl
  replace X : CallFix p m c cX9_isGoing 2 s args TT RX9 := X
  replace hl : lv_has ls 2 [(0, .ref (ad 0)), (1, .int a1)] := hl
  unfold fX9_isGoing at h
  refine lv_aload_n X.1 X.2.1 dX9_isGoing_0 rfl (lv_at hl 0 rfl) ?_
  refine r_getr (b2 := 1) X w lyM_0 rfl inT9 1 rfl rfl (by decide) rfl tw_903 dX9_isGoing_1 ?_
  refine lv_sipush (v := (276 : Int32)) X.1 X.2.1 dX9_isGoing_4 (by decide) ?_
  refine lv_bipush (v := (11 : Int32)) X.1 X.2.1 dX9_isGoing_7 (by decide) ?_
  refine lv_iload_n X.1 X.2.1 dX9_isGoing_9 rfl (lv_at hl 1 rfl) ?_
  refine lv_imul X.1 X.2.1 dX9_isGoing_10 ?_
  refine lv_iadd X.1 X.2.1 dX9_isGoing_11 ?_
  obtain ⟨hi1, h⟩ := gd_some h
  refine r_iald X w lyM_1 hi1 dX9_isGoing_12 ?_
  refine lv_iconst (v := (1 : Int32)) X.1 X.2.1 dX9_isGoing_13 (by decide) ?_
  refine lv_icmp_ne (tgt := 21) X.1 X.2.1 dX9_isGoing_14 (by decide) (fun c2 => ?_) (fun c2 => ?_)
  · rw [if_neg c2] at h
    refine lv_iconst (v := (0 : Int32)) X.1 X.2.1 dX9_isGoing_21 (by decide) ?_
    obtain rfl := Option.some.inj h
    exact r_zret X M w (by decide) dX9_isGoing_22
  · rw [if_pos c2] at h
    refine lv_iconst (v := (1 : Int32)) X.1 X.2.1 dX9_isGoing_17 (by decide) ?_
    refine lv_goto (tgt := 22) X.1 X.2.1 dX9_isGoing_18 (by decide) ?_
    obtain rfl := Option.some.inj h
    exact r_zret X M w (by decide) dX9_isGoing_22
/-! WalkHouseModel.walkerOf(II)I (R) -/
theorem hdX9_walkerOf : yX9_walkerOf.cls = RX9 ∧ yX9_walkerOf.cls ≠ "java/lang/invoke/MethodHandle" ∧ yX9_walkerOf.cls ≠ "java/lang/invoke/VarHandle" ∧ (parseMethodDescriptor yX9_walkerOf.desc).map (fun d => d.parameters.length) = some 2 := by decide +kernel
def fX9_walkerOf (mem : Mm) (a1 : Int32) (a2 : Int32) : Option Int32 :=
  gd (((276 : Int32) + ((11 : Int32) * a1)) + a2) 345 (some (mem 1 (((276 : Int32) + ((11 : Int32) * a1)) + a2).toNatClampNeg))
set_option maxRecDepth 100000 in
set_option maxHeartbeats 4000000 in
theorem kX9_walkerOf (l : Launch) (D : va_G) (ca : Nat → ClassId) (ad : Nat → Nat) (mem : Mm) (a1 : Int32) (a2 : Int32)  {r : Int32} (h : fX9_walkerOf mem a1 a2 = some r) : CtI l yX9_walkerOf cX9_walkerOf 3 (some .int) (rmx 0 0) D ca ad layM mem [.ref (ad 0), .int a1, .int a2] mem r := by
  refine CtI.of (by decide) (Nat.le_of_ble_eq_true rfl) ?_
  intro p e s m args below meth c H locs ls X M w hl
  replace X : CallFix p m c cX9_walkerOf 3 s args TT RX9 := X
  replace hl : lv_has ls 3 [(0, .ref (ad 0)), (1, .int a1), (2, .int a2)] := hl
  unfold fX9_walkerOf at h
  refine lv_aload_n X.1 X.2.1 dX9_walkerOf_0 rfl (lv_at hl 0 rfl) ?_
  refine r_getr (b2 := 1) X w lyM_0 rfl inT9 1 rfl rfl (by decide) rfl tw_903 dX9_walkerOf_1 ?_
  refine lv_sipush (v := (276 : Int32)) X.1 X.2.1 dX9_walkerOf_4 (by decide) ?_
  refine lv_bipush (v := (11 : Int32)) X.1 X.2.1 dX9_walkerOf_7 (by decide) ?_
  refine lv_iload_n X.1 X.2.1 dX9_walkerOf_9 rfl (lv_at hl 1 rfl) ?_
  refine lv_imul X.1 X.2.1 dX9_walkerOf_10 ?_
  refine lv_iadd X.1 X.2.1 dX9_walkerOf_11 ?_
  refine lv_iload_n X.1 X.2.1 dX9_walkerOf_12 rfl (lv_at hl 2 rfl) ?_
  refine lv_iadd X.1 X.2.1 dX9_walkerOf_13 ?_
  obtain ⟨hi1, h⟩ := gd_some h
  refine r_iald X w lyM_1 hi1 dX9_walkerOf_14 ?_
  obtain rfl := Option.some.inj h
  exact r_iret X M w dX9_walkerOf_15
/-! WalkHouseModel.clearsTag(I)V (W) -/
theorem hdX9_clearsTag : yX9_clearsTag.cls = RX9 ∧ yX9_clearsTag.cls ≠ "java/lang/invoke/MethodHandle" ∧ yX9_clearsTag.cls ≠ "java/lang/invoke/VarHandle" ∧ (parseMethodDescriptor yX9_clearsTag.desc).map (fun d => d.parameters.length) = some 1 := by decide +kernel
def fX9_clearsTag_b110_s  (k110 : Mm → Int32 → Int32 → Option (Mm × Unit)) (mem : Mm) (x1 : Int32) (x2 : Int32) : Option (Mm × Unit) :=
  if (4 : Int32) ≤ x2 then some (mem, ()) else bd (fX9_isGoing mem x2) (fun r2 => if r2 = 0 then k110 mem x1 (x2 + (1 : Int32)) else bd (fX9_walkerOf mem x2 (9 : Int32)) (fun r4 => if r4 = x1 then bw (fX9_aborts mem x2) (fun m7 r6 => k110 m7 x1 (x2 + (1 : Int32))) else k110 mem x1 (x2 + (1 : Int32))))
def fX9_clearsTag_b110  : Nat → Mm → Int32 → Int32 → Option (Mm × Unit)
  | 0 => fun _ _ _ => none
  | n + 1 => fX9_clearsTag_b110_s  (fX9_clearsTag_b110  n)
set_option maxRecDepth 100000 in
set_option maxHeartbeats 4000000 in
theorem wX9_clearsTag_b110_s {p : Program} {l : Launch} {e : Env} {s : State} {m : MethodId} {args : Array Value} {below : List Frame} {meth : Method} {c : Code} {D : va_G} {ca : Nat → ClassId} {ad : Nat → Nat} {H : Heap} {locs : List Loc} {ls : Array Slot} {mem : Mm} {x1 : Int32} {x2 : Int32}  {k110 : Mm → Int32 → Int32 → Option (Mm × Unit)} {mem' : Mm} {r : Unit} (X : CallFix p m c cX9_clearsTag 3 s args TT RX9) (M : Mt meth none)  (hk110 : ∀ (mem : Mm) (x1 : Int32) (x2 : Int32) (H : Heap) (locs : List Loc) (ls : Array Slot) , Wd D ca ad layM (AA ad layM.length) s.heap s mem H locs → lv_has ls 3 [(0, .ref (ad 0)), (1, .int x1), (2, .int x2)] → k110 mem x1 x2 = some (mem', r) → W p l e (rmx 1 22) s m args below meth c H locs 0 0 (EndV D ca ad layM mem' below args s) (F0 m 110 ls []))  (w : Wd D ca ad layM (AA ad layM.length) s.heap s mem H locs) (hl : lv_has ls 3 [(0, .ref (ad 0)), (1, .int x1), (2, .int x2)]) (h : fX9_clearsTag_b110_s  k110 mem x1 x2 = some (mem', r)) : W p l e (rmx 1 22) s m args below meth c H locs 0 0 (EndV D ca ad layM mem' below args s) (F0 m 110 ls []) := by
  unfold fX9_clearsTag_b110_s at h
  refine lv_iload_n X.1 X.2.1 dX9_clearsTag_110 rfl (lv_at hl 2 rfl) ?_
  refine lv_iconst (v := (4 : Int32)) X.1 X.2.1 dX9_clearsTag_111 (by decide) ?_
  refine lv_icmp_ge (tgt := 145) X.1 X.2.1 dX9_clearsTag_112 (by decide) (fun c1 => ?_) (fun c1 => ?_)
  · rw [if_pos c1] at h
    obtain ⟨rfl, -⟩ := Prod.mk.inj (Option.some.inj h)
    exact r_vret X M w dX9_clearsTag_145
  · rw [if_neg c1] at h
    refine lv_aload_n X.1 X.2.1 dX9_clearsTag_115 rfl (lv_at hl 0 rfl) ?_
    refine lv_iload_n X.1 X.2.1 dX9_clearsTag_116 rfl (lv_at hl 2 rfl) ?_
    obtain ⟨r2, hr2, h⟩ := bd_some h
    refine r_cVi (As := [.int x2]) (rest := []) X w lyM_0 rfl (kX9_isGoing  l D ca ad mem x2  hr2) (gTV tw_1023 tw_1025 tw_31 tw_75 tw_1026) hdX9_isGoing (by decide) rfl hl.1 rfl (Nat.le_of_ble_eq_true rfl) dX9_clearsTag_117 ⟨Nat.zero_le _, Nat.zero_le _⟩ (fun H locs w => ?_)
    refine lv_if_eq (tgt := 139) X.1 X.2.1 dX9_clearsTag_120 (by decide) (fun c3 => ?_) (fun c3 => ?_)
    · rw [if_pos c3] at h
      refine lv_iinc (v := (x2 + (1 : Int32))) (lv' := [(2, .int (x2 + (1 : Int32))), (0, .ref (ad 0)), (1, .int x1)]) X.1 X.2.1 dX9_clearsTag_139 hl (k := 2) rfl rfl (by decide) rfl (fun ls hl => ?_)
      refine lv_goto (tgt := 110) X.1 X.2.1 dX9_clearsTag_142 (by decide) ?_
      exact hk110 _ _ _ H locs ls w (lv_sub hl [1, 2, 0] rfl) h
    · rw [if_neg c3] at h
      refine lv_aload_n X.1 X.2.1 dX9_clearsTag_123 rfl (lv_at hl 0 rfl) ?_
      refine lv_iload_n X.1 X.2.1 dX9_clearsTag_124 rfl (lv_at hl 2 rfl) ?_
      refine lv_bipush (v := (9 : Int32)) X.1 X.2.1 dX9_clearsTag_125 (by decide) ?_
      obtain ⟨r4, hr4, h⟩ := bd_some h
      refine r_cVi (As := [.int x2, .int (9 : Int32)]) (rest := []) X w lyM_0 rfl (kX9_walkerOf  l D ca ad mem x2 (9 : Int32)  hr4) (gTV tw_1027 tw_1029 tw_32 tw_75 tw_1030) hdX9_walkerOf (by decide) rfl hl.1 rfl (Nat.le_of_ble_eq_true rfl) dX9_clearsTag_127 ⟨Nat.zero_le _, Nat.zero_le _⟩ (fun H locs w => ?_)
      refine lv_iload_n X.1 X.2.1 dX9_clearsTag_130 rfl (lv_at hl 1 rfl) ?_
      refine lv_icmp_ne (tgt := 139) X.1 X.2.1 dX9_clearsTag_131 (by decide) (fun c5 => ?_) (fun c5 => ?_)
      · rw [if_neg c5] at h
        refine lv_iinc (v := (x2 + (1 : Int32))) (lv' := [(2, .int (x2 + (1 : Int32))), (0, .ref (ad 0)), (1, .int x1)]) X.1 X.2.1 dX9_clearsTag_139 hl (k := 2) rfl rfl (by decide) rfl (fun ls hl => ?_)
        refine lv_goto (tgt := 110) X.1 X.2.1 dX9_clearsTag_142 (by decide) ?_
        exact hk110 _ _ _ H locs ls w (lv_sub hl [1, 2, 0] rfl) h
      · rw [if_pos c5] at h
        refine lv_aload_n X.1 X.2.1 dX9_clearsTag_134 rfl (lv_at hl 0 rfl) ?_
        refine lv_iload_n X.1 X.2.1 dX9_clearsTag_135 rfl (lv_at hl 2 rfl) ?_
        obtain ⟨m7, r6, hr6, h⟩ := bw_some h
        refine r_cVv (As := [.int x2]) (rest := []) X w lyM_0 rfl (kX9_aborts  l D ca ad mem x2  hr6) (gTV tw_1031 tw_1033 tw_33 tw_75 tw_1034) hdX9_aborts (by decide) rfl hl.1 rfl (Nat.le_of_ble_eq_true rfl) dX9_clearsTag_136 ⟨Nat.zero_le _, Nat.zero_le _⟩ (fun H locs w => ?_)
        refine lv_iinc (v := (x2 + (1 : Int32))) (lv' := [(2, .int (x2 + (1 : Int32))), (0, .ref (ad 0)), (1, .int x1)]) X.1 X.2.1 dX9_clearsTag_139 hl (k := 2) rfl rfl (by decide) rfl (fun ls hl => ?_)
        refine lv_goto (tgt := 110) X.1 X.2.1 dX9_clearsTag_142 (by decide) ?_
        exact hk110 _ _ _ H locs ls w (lv_sub hl [1, 2, 0] rfl) h
set_option maxRecDepth 100000 in
set_option maxHeartbeats 4000000 in
theorem wX9_clearsTag_b110 {p : Program} {l : Launch} {e : Env} {s : State} {m : MethodId} {args : Array Value} {below : List Frame} {meth : Method} {c : Code} {D : va_G} {ca : Nat → ClassId} {ad : Nat → Nat}  {mem' : Mm} {r : Unit} (X : CallFix p m c cX9_clearsTag 3 s args TT RX9) (M : Mt meth none)  : ∀ (n : Nat) (mem : Mm) (x1 : Int32) (x2 : Int32) (H : Heap) (locs : List Loc) (ls : Array Slot)  (_ : Wd D ca ad layM (AA ad layM.length) s.heap s mem H locs) (_ : lv_has ls 3 [(0, .ref (ad 0)), (1, .int x1), (2, .int x2)]) (_ : fX9_clearsTag_b110  n mem x1 x2 = some (mem', r)), W p l e (rmx 1 22) s m args below meth c H locs 0 0 (EndV D ca ad layM mem' below args s) (F0 m 110 ls []) := by
  intro n
  induction n with
  | zero => intro mem x1 x2 H locs ls  w hl h; exact (nofun : (none : Option (Mm × Unit)) = _ → _) h
  | succ n ih => intro mem x1 x2 H locs ls  w hl h; exact wX9_clearsTag_b110_s X M  ih  w hl h
def fX9_clearsTag_b54 (k2 : Mm → Int32 → Int32 → Option (Mm × Unit)) (mem : Mm) (x1 : Int32) (x2 : Int32) (s1 : Int32) (s2 : Int32) : Option (Mm × Unit) :=
  gd s1 345 (wk mem 1 s1.toNatClampNeg s2 (fun m2 => gd ((234 : Int32) + ((7 : Int32) * x2)) 345 (if (m2 1 ((234 : Int32) + ((7 : Int32) * x2)).toNatClampNeg) = x1 then gd ((234 : Int32) + ((7 : Int32) * x2)) 345 (wk m2 1 ((234 : Int32) + ((7 : Int32) * x2)).toNatClampNeg (-1 : Int32) (fun m9 => k2 m9 x1 (x2 + (1 : Int32)))) else gd ((234 : Int32) + ((7 : Int32) * x2)) 345 (gd ((234 : Int32) + ((7 : Int32) * x2)) 345 (wk m2 1 ((234 : Int32) + ((7 : Int32) * x2)).toNatClampNeg (m2 1 ((234 : Int32) + ((7 : Int32) * x2)).toNatClampNeg) (fun m7 => k2 m7 x1 (x2 + (1 : Int32))))))))
set_option maxRecDepth 100000 in
set_option maxHeartbeats 4000000 in
theorem wX9_clearsTag_b54 {p : Program} {l : Launch} {e : Env} {s : State} {m : MethodId} {args : Array Value} {below : List Frame} {meth : Method} {c : Code} {D : va_G} {ca : Nat → ClassId} {ad : Nat → Nat} {H : Heap} {locs : List Loc} {ls : Array Slot} {mem : Mm} {x1 : Int32} {x2 : Int32} {s1 : Int32} {s2 : Int32} {k2 : Mm → Int32 → Int32 → Option (Mm × Unit)} {mem' : Mm} {r : Unit} (X : CallFix p m c cX9_clearsTag 3 s args TT RX9) (M : Mt meth none) (hk2 : ∀ (mem : Mm) (x1 : Int32) (x2 : Int32) (H : Heap) (locs : List Loc) (ls : Array Slot) , Wd D ca ad layM (AA ad layM.length) s.heap s mem H locs → lv_has ls 3 [(0, .ref (ad 0)), (1, .int x1), (2, .int x2)] → k2 mem x1 x2 = some (mem', r) → W p l e (rmx 1 22) s m args below meth c H locs 0 0 (EndV D ca ad layM mem' below args s) (F0 m 2 ls []))  (w : Wd D ca ad layM (AA ad layM.length) s.heap s mem H locs) (hl : lv_has ls 3 [(0, .ref (ad 0)), (1, .int x1), (2, .int x2)]) (h : fX9_clearsTag_b54 k2 mem x1 x2 s1 s2 = some (mem', r)) : W p l e (rmx 1 22) s m args below meth c H locs 0 0 (EndV D ca ad layM mem' below args s) (F0 m 54 ls [.int s2, .int s1, .ref (ad 1)]) := by
  unfold fX9_clearsTag_b54 at h
  obtain ⟨hi1, h⟩ := gd_some h
  refine r_iast X w lyM_1 hi1 dX9_clearsTag_54 (fun H locs w => ?_)
  obtain ⟨m2, em2, h⟩ := wk_some h
  rw [em2] at w
  refine lv_aload_n X.1 X.2.1 dX9_clearsTag_55 rfl (lv_at hl 0 rfl) ?_
  refine r_getr (b2 := 1) X w lyM_0 rfl inT9 1 rfl rfl (by decide) rfl tw_903 dX9_clearsTag_56 ?_
  refine lv_sipush (v := (234 : Int32)) X.1 X.2.1 dX9_clearsTag_59 (by decide) ?_
  refine lv_bipush (v := (7 : Int32)) X.1 X.2.1 dX9_clearsTag_62 (by decide) ?_
  refine lv_iload_n X.1 X.2.1 dX9_clearsTag_64 rfl (lv_at hl 2 rfl) ?_
  refine lv_imul X.1 X.2.1 dX9_clearsTag_65 ?_
  refine lv_iadd X.1 X.2.1 dX9_clearsTag_66 ?_
  refine lv_aload_n X.1 X.2.1 dX9_clearsTag_67 rfl (lv_at hl 0 rfl) ?_
  refine r_getr (b2 := 1) X w lyM_0 rfl inT9 1 rfl rfl (by decide) rfl tw_903 dX9_clearsTag_68 ?_
  refine lv_sipush (v := (234 : Int32)) X.1 X.2.1 dX9_clearsTag_71 (by decide) ?_
  refine lv_bipush (v := (7 : Int32)) X.1 X.2.1 dX9_clearsTag_74 (by decide) ?_
  refine lv_iload_n X.1 X.2.1 dX9_clearsTag_76 rfl (lv_at hl 2 rfl) ?_
  refine lv_imul X.1 X.2.1 dX9_clearsTag_77 ?_
  refine lv_iadd X.1 X.2.1 dX9_clearsTag_78 ?_
  obtain ⟨hi3, h⟩ := gd_some h
  refine r_iald X w lyM_1 hi3 dX9_clearsTag_79 ?_
  refine lv_iload_n X.1 X.2.1 dX9_clearsTag_80 rfl (lv_at hl 1 rfl) ?_
  refine lv_icmp_ne (tgt := 88) X.1 X.2.1 dX9_clearsTag_81 (by decide) (fun c4 => ?_) (fun c4 => ?_)
  · rw [if_neg c4] at h
    refine lv_aload_n X.1 X.2.1 dX9_clearsTag_88 rfl (lv_at hl 0 rfl) ?_
    refine r_getr (b2 := 1) X w lyM_0 rfl inT9 1 rfl rfl (by decide) rfl tw_903 dX9_clearsTag_89 ?_
    refine lv_sipush (v := (234 : Int32)) X.1 X.2.1 dX9_clearsTag_92 (by decide) ?_
    refine lv_bipush (v := (7 : Int32)) X.1 X.2.1 dX9_clearsTag_95 (by decide) ?_
    refine lv_iload_n X.1 X.2.1 dX9_clearsTag_97 rfl (lv_at hl 2 rfl) ?_
    refine lv_imul X.1 X.2.1 dX9_clearsTag_98 ?_
    refine lv_iadd X.1 X.2.1 dX9_clearsTag_99 ?_
    obtain ⟨hi5, h⟩ := gd_some h
    refine r_iald X w lyM_1 hi5 dX9_clearsTag_100 ?_
    obtain ⟨hi6, h⟩ := gd_some h
    refine r_iast X w lyM_1 hi6 dX9_clearsTag_101 (fun H locs w => ?_)
    obtain ⟨m7, em7, h⟩ := wk_some h
    rw [em7] at w
    refine lv_iinc (v := (x2 + (1 : Int32))) (lv' := [(2, .int (x2 + (1 : Int32))), (0, .ref (ad 0)), (1, .int x1)]) X.1 X.2.1 dX9_clearsTag_102 hl (k := 2) rfl rfl (by decide) rfl (fun ls hl => ?_)
    refine lv_goto (tgt := 2) X.1 X.2.1 dX9_clearsTag_105 (by decide) ?_
    exact hk2 _ _ _ H locs ls w (lv_sub hl [1, 2, 0] rfl) h
  · rw [if_pos c4] at h
    refine lv_iconst (v := (-1 : Int32)) X.1 X.2.1 dX9_clearsTag_84 (by decide) ?_
    refine lv_goto (tgt := 101) X.1 X.2.1 dX9_clearsTag_85 (by decide) ?_
    obtain ⟨hi8, h⟩ := gd_some h
    refine r_iast X w lyM_1 hi8 dX9_clearsTag_101 (fun H locs w => ?_)
    obtain ⟨m9, em9, h⟩ := wk_some h
    rw [em9] at w
    refine lv_iinc (v := (x2 + (1 : Int32))) (lv' := [(2, .int (x2 + (1 : Int32))), (0, .ref (ad 0)), (1, .int x1)]) X.1 X.2.1 dX9_clearsTag_102 hl (k := 2) rfl rfl (by decide) rfl (fun ls hl => ?_)
    refine lv_goto (tgt := 2) X.1 X.2.1 dX9_clearsTag_105 (by decide) ?_
    exact hk2 _ _ _ H locs ls w (lv_sub hl [1, 2, 0] rfl) h
def fX9_clearsTag_b2_s  (k2 : Mm → Int32 → Int32 → Option (Mm × Unit)) (mem : Mm) (x1 : Int32) (x2 : Int32) : Option (Mm × Unit) :=
  if (6 : Int32) ≤ x2 then fX9_clearsTag_b110 2000 mem x1 (0 : Int32) else gd ((192 : Int32) + ((7 : Int32) * x2)) 345 (if (mem 1 ((192 : Int32) + ((7 : Int32) * x2)).toNatClampNeg) = x1 then fX9_clearsTag_b54 k2 mem x1 x2 ((192 : Int32) + ((7 : Int32) * x2)) (-1 : Int32) else gd ((192 : Int32) + ((7 : Int32) * x2)) 345 (fX9_clearsTag_b54 k2 mem x1 x2 ((192 : Int32) + ((7 : Int32) * x2)) (mem 1 ((192 : Int32) + ((7 : Int32) * x2)).toNatClampNeg)))
def fX9_clearsTag_b2  : Nat → Mm → Int32 → Int32 → Option (Mm × Unit)
  | 0 => fun _ _ _ => none
  | n + 1 => fX9_clearsTag_b2_s  (fX9_clearsTag_b2  n)
set_option maxRecDepth 100000 in
set_option maxHeartbeats 4000000 in
theorem wX9_clearsTag_b2_s {p : Program} {l : Launch} {e : Env} {s : State} {m : MethodId} {args : Array Value} {below : List Frame} {meth : Method} {c : Code} {D : va_G} {ca : Nat → ClassId} {ad : Nat → Nat} {H : Heap} {locs : List Loc} {ls : Array Slot} {mem : Mm} {x1 : Int32} {x2 : Int32}  {k2 : Mm → Int32 → Int32 → Option (Mm × Unit)} {mem' : Mm} {r : Unit} (X : CallFix p m c cX9_clearsTag 3 s args TT RX9) (M : Mt meth none)  (hk2 : ∀ (mem : Mm) (x1 : Int32) (x2 : Int32) (H : Heap) (locs : List Loc) (ls : Array Slot) , Wd D ca ad layM (AA ad layM.length) s.heap s mem H locs → lv_has ls 3 [(0, .ref (ad 0)), (1, .int x1), (2, .int x2)] → k2 mem x1 x2 = some (mem', r) → W p l e (rmx 1 22) s m args below meth c H locs 0 0 (EndV D ca ad layM mem' below args s) (F0 m 2 ls []))  (w : Wd D ca ad layM (AA ad layM.length) s.heap s mem H locs) (hl : lv_has ls 3 [(0, .ref (ad 0)), (1, .int x1), (2, .int x2)]) (h : fX9_clearsTag_b2_s  k2 mem x1 x2 = some (mem', r)) : W p l e (rmx 1 22) s m args below meth c H locs 0 0 (EndV D ca ad layM mem' below args s) (F0 m 2 ls []) := by
  unfold fX9_clearsTag_b2_s at h
  refine lv_iload_n X.1 X.2.1 dX9_clearsTag_2 rfl (lv_at hl 2 rfl) ?_
  refine lv_bipush (v := (6 : Int32)) X.1 X.2.1 dX9_clearsTag_3 (by decide) ?_
  refine lv_icmp_ge (tgt := 108) X.1 X.2.1 dX9_clearsTag_5 (by decide) (fun c1 => ?_) (fun c1 => ?_)
  · rw [if_pos c1] at h
    refine lv_iconst (v := (0 : Int32)) X.1 X.2.1 dX9_clearsTag_108 (by decide) ?_
    refine lv_istore_n (lv' := [(2, .int (0 : Int32)), (0, .ref (ad 0)), (1, .int x1)]) X.1 X.2.1 dX9_clearsTag_109 rfl hl (by decide) rfl (fun ls hl => ?_)
    exact wX9_clearsTag_b110 X M _ _ _ _ H locs ls w (lv_sub hl [1, 2, 0] rfl) h
  · rw [if_neg c1] at h
    refine lv_aload_n X.1 X.2.1 dX9_clearsTag_8 rfl (lv_at hl 0 rfl) ?_
    refine r_getr (b2 := 1) X w lyM_0 rfl inT9 1 rfl rfl (by decide) rfl tw_903 dX9_clearsTag_9 ?_
    refine lv_sipush (v := (192 : Int32)) X.1 X.2.1 dX9_clearsTag_12 (by decide) ?_
    refine lv_bipush (v := (7 : Int32)) X.1 X.2.1 dX9_clearsTag_15 (by decide) ?_
    refine lv_iload_n X.1 X.2.1 dX9_clearsTag_17 rfl (lv_at hl 2 rfl) ?_
    refine lv_imul X.1 X.2.1 dX9_clearsTag_18 ?_
    refine lv_iadd X.1 X.2.1 dX9_clearsTag_19 ?_
    refine lv_aload_n X.1 X.2.1 dX9_clearsTag_20 rfl (lv_at hl 0 rfl) ?_
    refine r_getr (b2 := 1) X w lyM_0 rfl inT9 1 rfl rfl (by decide) rfl tw_903 dX9_clearsTag_21 ?_
    refine lv_sipush (v := (192 : Int32)) X.1 X.2.1 dX9_clearsTag_24 (by decide) ?_
    refine lv_bipush (v := (7 : Int32)) X.1 X.2.1 dX9_clearsTag_27 (by decide) ?_
    refine lv_iload_n X.1 X.2.1 dX9_clearsTag_29 rfl (lv_at hl 2 rfl) ?_
    refine lv_imul X.1 X.2.1 dX9_clearsTag_30 ?_
    refine lv_iadd X.1 X.2.1 dX9_clearsTag_31 ?_
    obtain ⟨hi2, h⟩ := gd_some h
    refine r_iald X w lyM_1 hi2 dX9_clearsTag_32 ?_
    refine lv_iload_n X.1 X.2.1 dX9_clearsTag_33 rfl (lv_at hl 1 rfl) ?_
    refine lv_icmp_ne (tgt := 41) X.1 X.2.1 dX9_clearsTag_34 (by decide) (fun c3 => ?_) (fun c3 => ?_)
    · rw [if_neg c3] at h
      refine lv_aload_n X.1 X.2.1 dX9_clearsTag_41 rfl (lv_at hl 0 rfl) ?_
      refine r_getr (b2 := 1) X w lyM_0 rfl inT9 1 rfl rfl (by decide) rfl tw_903 dX9_clearsTag_42 ?_
      refine lv_sipush (v := (192 : Int32)) X.1 X.2.1 dX9_clearsTag_45 (by decide) ?_
      refine lv_bipush (v := (7 : Int32)) X.1 X.2.1 dX9_clearsTag_48 (by decide) ?_
      refine lv_iload_n X.1 X.2.1 dX9_clearsTag_50 rfl (lv_at hl 2 rfl) ?_
      refine lv_imul X.1 X.2.1 dX9_clearsTag_51 ?_
      refine lv_iadd X.1 X.2.1 dX9_clearsTag_52 ?_
      obtain ⟨hi4, h⟩ := gd_some h
      refine r_iald X w lyM_1 hi4 dX9_clearsTag_53 ?_
      exact wX9_clearsTag_b54 X M hk2 w (lv_sub hl [0, 1, 2] rfl) h
    · rw [if_pos c3] at h
      refine lv_iconst (v := (-1 : Int32)) X.1 X.2.1 dX9_clearsTag_37 (by decide) ?_
      refine lv_goto (tgt := 54) X.1 X.2.1 dX9_clearsTag_38 (by decide) ?_
      exact wX9_clearsTag_b54 X M hk2 w (lv_sub hl [0, 1, 2] rfl) h
set_option maxRecDepth 100000 in
set_option maxHeartbeats 4000000 in
theorem wX9_clearsTag_b2 {p : Program} {l : Launch} {e : Env} {s : State} {m : MethodId} {args : Array Value} {below : List Frame} {meth : Method} {c : Code} {D : va_G} {ca : Nat → ClassId} {ad : Nat → Nat}  {mem' : Mm} {r : Unit} (X : CallFix p m c cX9_clearsTag 3 s args TT RX9) (M : Mt meth none)  : ∀ (n : Nat) (mem : Mm) (x1 : Int32) (x2 : Int32) (H : Heap) (locs : List Loc) (ls : Array Slot)  (_ : Wd D ca ad layM (AA ad layM.length) s.heap s mem H locs) (_ : lv_has ls 3 [(0, .ref (ad 0)), (1, .int x1), (2, .int x2)]) (_ : fX9_clearsTag_b2  n mem x1 x2 = some (mem', r)), W p l e (rmx 1 22) s m args below meth c H locs 0 0 (EndV D ca ad layM mem' below args s) (F0 m 2 ls []) := by
  intro n
  induction n with
  | zero => intro mem x1 x2 H locs ls  w hl h; exact (nofun : (none : Option (Mm × Unit)) = _ → _) h
  | succ n ih => intro mem x1 x2 H locs ls  w hl h; exact wX9_clearsTag_b2_s X M  ih  w hl h
def fX9_clearsTag (mem : Mm) (a1 : Int32) : Option (Mm × Unit) :=
  fX9_clearsTag_b2 2000 mem a1 (0 : Int32)
set_option maxRecDepth 100000 in
set_option maxHeartbeats 4000000 in
theorem kX9_clearsTag (l : Launch) (D : va_G) (ca : Nat → ClassId) (ad : Nat → Nat) (mem : Mm) (a1 : Int32)  {mem' : Mm} {r : Unit} (h : fX9_clearsTag mem a1 = some (mem', r)) : CtV l yX9_clearsTag cX9_clearsTag 3 none (rmx 1 22) D ca ad layM mem [.ref (ad 0), .int a1] mem' := by
  refine CtV.of (by decide) (Nat.le_of_ble_eq_true rfl) ?_
  intro p e s m args below meth c H locs ls X M w hl
  replace X : CallFix p m c cX9_clearsTag 3 s args TT RX9 := X
  replace hl : lv_has ls 3 [(0, .ref (ad 0)), (1, .int a1)] := hl
  unfold fX9_clearsTag at h
  refine lv_iconst (v := (0 : Int32)) X.1 X.2.1 dX9_clearsTag_0 (by decide) ?_
  refine lv_istore_n (lv' := [(2, .int (0 : Int32)), (0, .ref (ad 0)), (1, .int a1)]) X.1 X.2.1 dX9_clearsTag_1 rfl hl (by decide) rfl (fun ls hl => ?_)
  exact wX9_clearsTag_b2 X M _ _ _ _ H locs ls w (lv_sub hl [1, 2, 0] rfl) h
/-! WalkHouseModel.freeTag()I (W) -/
theorem hdX9_freeTag : yX9_freeTag.cls = RX9 ∧ yX9_freeTag.cls ≠ "java/lang/invoke/MethodHandle" ∧ yX9_freeTag.cls ≠ "java/lang/invoke/VarHandle" ∧ (parseMethodDescriptor yX9_freeTag.desc).map (fun d => d.parameters.length) = some 0 := by decide +kernel
def fX9_freeTag_b83 (k32 : Mm → Int32 → Int32 → Option (Mm × Int32)) (mem : Mm) (x2 : Int32) (x3 : Int32) (s0 : Int32) : Option (Mm × Int32) :=
  if s0 = 0 then k32 mem x2 (x3 + (1 : Int32)) else k32 mem x3 (x3 + (1 : Int32))
set_option maxRecDepth 100000 in
set_option maxHeartbeats 4000000 in
theorem wX9_freeTag_b83 {p : Program} {l : Launch} {e : Env} {s : State} {m : MethodId} {args : Array Value} {below : List Frame} {meth : Method} {c : Code} {D : va_G} {ca : Nat → ClassId} {ad : Nat → Nat} {H : Heap} {locs : List Loc} {ls : Array Slot} {mem : Mm} {x2 : Int32} {x3 : Int32} {s0 : Int32} {k32 : Mm → Int32 → Int32 → Option (Mm × Int32)} {mem' : Mm} {r : Int32} (X : CallFix p m c cX9_freeTag 5 s args TT RX9) (M : Mt meth (some .int)) (hk32 : ∀ (mem : Mm) (x2 : Int32) (x3 : Int32) (H : Heap) (locs : List Loc) (ls : Array Slot) , Wd D ca ad layM (AA ad layM.length) s.heap s mem H locs → lv_has ls 5 [(0, .ref (ad 0)), (2, .int x2), (3, .int x3)] → k32 mem x2 x3 = some (mem', r) → W p l e (rmx 2 44) s m args below meth c H locs 0 0 (EndI D ca ad layM mem' r below args s) (F0 m 32 ls []))  (w : Wd D ca ad layM (AA ad layM.length) s.heap s mem H locs) (hl : lv_has ls 5 [(0, .ref (ad 0)), (2, .int x2), (3, .int x3)]) (h : fX9_freeTag_b83 k32 mem x2 x3 s0 = some (mem', r)) : W p l e (rmx 2 44) s m args below meth c H locs 0 0 (EndI D ca ad layM mem' r below args s) (F0 m 83 ls [.int s0]) := by
  unfold fX9_freeTag_b83 at h
  refine lv_istore (lv' := [(4, .int s0), (0, .ref (ad 0)), (2, .int x2), (3, .int x3)]) X.1 X.2.1 dX9_freeTag_83 hl (by decide) rfl (fun ls hl => ?_)
  refine lv_iload X.1 X.2.1 dX9_freeTag_85 (lv_at hl 0 rfl) ?_
  refine lv_if_eq (tgt := 94) X.1 X.2.1 dX9_freeTag_87 (by decide) (fun c1 => ?_) (fun c1 => ?_)
  · rw [if_pos c1] at h
    refine lv_iload_n X.1 X.2.1 dX9_freeTag_94 rfl (lv_at hl 2 rfl) ?_
    refine lv_istore_n (lv' := [(2, .int x2), (4, .int s0), (0, .ref (ad 0)), (3, .int x3)]) X.1 X.2.1 dX9_freeTag_95 rfl hl (by decide) rfl (fun ls hl => ?_)
    refine lv_iinc (v := (x3 + (1 : Int32))) (lv' := [(3, .int (x3 + (1 : Int32))), (2, .int x2), (4, .int s0), (0, .ref (ad 0))]) X.1 X.2.1 dX9_freeTag_96 hl (k := 3) rfl rfl (by decide) rfl (fun ls hl => ?_)
    refine lv_goto (tgt := 32) X.1 X.2.1 dX9_freeTag_99 (by decide) ?_
    exact hk32 _ _ _ H locs ls w (lv_sub hl [3, 1, 0] rfl) h
  · rw [if_neg c1] at h
    refine lv_iload_n X.1 X.2.1 dX9_freeTag_90 rfl (lv_at hl 3 rfl) ?_
    refine lv_goto (tgt := 95) X.1 X.2.1 dX9_freeTag_91 (by decide) ?_
    refine lv_istore_n (lv' := [(2, .int x3), (4, .int s0), (0, .ref (ad 0)), (3, .int x3)]) X.1 X.2.1 dX9_freeTag_95 rfl hl (by decide) rfl (fun ls hl => ?_)
    refine lv_iinc (v := (x3 + (1 : Int32))) (lv' := [(3, .int (x3 + (1 : Int32))), (2, .int x3), (4, .int s0), (0, .ref (ad 0))]) X.1 X.2.1 dX9_freeTag_96 hl (k := 3) rfl rfl (by decide) rfl (fun ls hl => ?_)
    refine lv_goto (tgt := 32) X.1 X.2.1 dX9_freeTag_99 (by decide) ?_
    exact hk32 _ _ _ H locs ls w (lv_sub hl [3, 1, 0] rfl) h
def fX9_freeTag_b32_s  (k32 : Mm → Int32 → Int32 → Option (Mm × Int32)) (mem : Mm) (x2 : Int32) (x3 : Int32) : Option (Mm × Int32) :=
  if (6 : Int32) ≤ x3 then gd ((332 : Int32) + x2) 345 (lk (mem 1 ((332 : Int32) + x2).toNatClampNeg) (fun x_3 => gd ((332 : Int32) + x2) 345 (wk mem 1 ((332 : Int32) + x2).toNatClampNeg (-1 : Int32) (fun m5 => bw (fX9_clearsTag m5 x_3) (fun m7 r6 => some (m7, x_3)))))) else gd ((332 : Int32) + x3) 345 (if (mem 1 ((332 : Int32) + x3).toNatClampNeg) < 0 then fX9_freeTag_b83 k32 mem x2 x3 (0 : Int32) else if x2 < 0 then fX9_freeTag_b83 k32 mem x2 x3 (1 : Int32) else gd ((338 : Int32) + x3) 345 (gd ((338 : Int32) + x2) 345 (if (mem 1 ((338 : Int32) + x2).toNatClampNeg) ≤ (mem 1 ((338 : Int32) + x3).toNatClampNeg) then fX9_freeTag_b83 k32 mem x2 x3 (0 : Int32) else fX9_freeTag_b83 k32 mem x2 x3 (1 : Int32))))
def fX9_freeTag_b32  : Nat → Mm → Int32 → Int32 → Option (Mm × Int32)
  | 0 => fun _ _ _ => none
  | n + 1 => fX9_freeTag_b32_s  (fX9_freeTag_b32  n)
set_option maxRecDepth 100000 in
set_option maxHeartbeats 4000000 in
theorem wX9_freeTag_b32_s {p : Program} {l : Launch} {e : Env} {s : State} {m : MethodId} {args : Array Value} {below : List Frame} {meth : Method} {c : Code} {D : va_G} {ca : Nat → ClassId} {ad : Nat → Nat} {H : Heap} {locs : List Loc} {ls : Array Slot} {mem : Mm} {x2 : Int32} {x3 : Int32}  {k32 : Mm → Int32 → Int32 → Option (Mm × Int32)} {mem' : Mm} {r : Int32} (X : CallFix p m c cX9_freeTag 5 s args TT RX9) (M : Mt meth (some .int))  (hk32 : ∀ (mem : Mm) (x2 : Int32) (x3 : Int32) (H : Heap) (locs : List Loc) (ls : Array Slot) , Wd D ca ad layM (AA ad layM.length) s.heap s mem H locs → lv_has ls 5 [(0, .ref (ad 0)), (2, .int x2), (3, .int x3)] → k32 mem x2 x3 = some (mem', r) → W p l e (rmx 2 44) s m args below meth c H locs 0 0 (EndI D ca ad layM mem' r below args s) (F0 m 32 ls []))  (w : Wd D ca ad layM (AA ad layM.length) s.heap s mem H locs) (hl : lv_has ls 5 [(0, .ref (ad 0)), (2, .int x2), (3, .int x3)]) (h : fX9_freeTag_b32_s  k32 mem x2 x3 = some (mem', r)) : W p l e (rmx 2 44) s m args below meth c H locs 0 0 (EndI D ca ad layM mem' r below args s) (F0 m 32 ls []) := by
  unfold fX9_freeTag_b32_s at h
  refine lv_iload_n X.1 X.2.1 dX9_freeTag_32 rfl (lv_at hl 2 rfl) ?_
  refine lv_bipush (v := (6 : Int32)) X.1 X.2.1 dX9_freeTag_33 (by decide) ?_
  refine lv_icmp_ge (tgt := 102) X.1 X.2.1 dX9_freeTag_35 (by decide) (fun c1 => ?_) (fun c1 => ?_)
  · rw [if_pos c1] at h
    refine lv_aload_n X.1 X.2.1 dX9_freeTag_102 rfl (lv_at hl 0 rfl) ?_
    refine r_getr (b2 := 1) X w lyM_0 rfl inT9 1 rfl rfl (by decide) rfl tw_903 dX9_freeTag_103 ?_
    refine lv_sipush (v := (332 : Int32)) X.1 X.2.1 dX9_freeTag_106 (by decide) ?_
    refine lv_iload_n X.1 X.2.1 dX9_freeTag_109 rfl (lv_at hl 1 rfl) ?_
    refine lv_iadd X.1 X.2.1 dX9_freeTag_110 ?_
    obtain ⟨hi2, h⟩ := gd_some h
    refine r_iald X w lyM_1 hi2 dX9_freeTag_111 ?_
    obtain ⟨x_3, ex_3, h⟩ := lk_some h
    refine lv_name ex_3 ?_
    refine lv_istore_n (lv' := [(3, .int x_3), (0, .ref (ad 0)), (2, .int x2)]) X.1 X.2.1 dX9_freeTag_112 rfl hl (by decide) rfl (fun ls hl => ?_)
    refine lv_aload_n X.1 X.2.1 dX9_freeTag_113 rfl (lv_at hl 1 rfl) ?_
    refine r_getr (b2 := 1) X w lyM_0 rfl inT9 1 rfl rfl (by decide) rfl tw_903 dX9_freeTag_114 ?_
    refine lv_sipush (v := (332 : Int32)) X.1 X.2.1 dX9_freeTag_117 (by decide) ?_
    refine lv_iload_n X.1 X.2.1 dX9_freeTag_120 rfl (lv_at hl 2 rfl) ?_
    refine lv_iadd X.1 X.2.1 dX9_freeTag_121 ?_
    refine lv_iconst (v := (-1 : Int32)) X.1 X.2.1 dX9_freeTag_122 (by decide) ?_
    obtain ⟨hi4, h⟩ := gd_some h
    refine r_iast X w lyM_1 hi4 dX9_freeTag_123 (fun H locs w => ?_)
    obtain ⟨m5, em5, h⟩ := wk_some h
    rw [em5] at w
    refine lv_aload_n X.1 X.2.1 dX9_freeTag_124 rfl (lv_at hl 1 rfl) ?_
    refine lv_iload_n X.1 X.2.1 dX9_freeTag_125 rfl (lv_at hl 0 rfl) ?_
    obtain ⟨m7, r6, hr6, h⟩ := bw_some h
    refine r_cVv (As := [.int x_3]) (rest := []) X w lyM_0 rfl (kX9_clearsTag  l D ca ad m5 x_3  hr6) (gTV tw_1019 tw_1021 tw_30 tw_75 tw_1022) hdX9_clearsTag (by decide) rfl hl.1 rfl (Nat.le_of_ble_eq_true rfl) dX9_freeTag_126 ⟨Nat.zero_le _, Nat.zero_le _⟩ (fun H locs w => ?_)
    refine lv_iload_n X.1 X.2.1 dX9_freeTag_129 rfl (lv_at hl 0 rfl) ?_
    obtain ⟨rfl, rfl⟩ := Prod.mk.inj (Option.some.inj h)
    exact r_iret X M w dX9_freeTag_130
  · rw [if_neg c1] at h
    refine lv_aload_n X.1 X.2.1 dX9_freeTag_38 rfl (lv_at hl 0 rfl) ?_
    refine r_getr (b2 := 1) X w lyM_0 rfl inT9 1 rfl rfl (by decide) rfl tw_903 dX9_freeTag_39 ?_
    refine lv_sipush (v := (332 : Int32)) X.1 X.2.1 dX9_freeTag_42 (by decide) ?_
    refine lv_iload_n X.1 X.2.1 dX9_freeTag_45 rfl (lv_at hl 2 rfl) ?_
    refine lv_iadd X.1 X.2.1 dX9_freeTag_46 ?_
    obtain ⟨hi8, h⟩ := gd_some h
    refine r_iald X w lyM_1 hi8 dX9_freeTag_47 ?_
    refine lv_if_lt (tgt := 82) X.1 X.2.1 dX9_freeTag_48 (by decide) (fun c9 => ?_) (fun c9 => ?_)
    · rw [if_pos c9] at h
      refine lv_iconst (v := (0 : Int32)) X.1 X.2.1 dX9_freeTag_82 (by decide) ?_
      exact wX9_freeTag_b83 X M hk32 w (lv_sub hl [0, 1, 2] rfl) h
    · rw [if_neg c9] at h
      refine lv_iload_n X.1 X.2.1 dX9_freeTag_51 rfl (lv_at hl 1 rfl) ?_
      refine lv_if_lt (tgt := 78) X.1 X.2.1 dX9_freeTag_52 (by decide) (fun c10 => ?_) (fun c10 => ?_)
      · rw [if_pos c10] at h
        refine lv_iconst (v := (1 : Int32)) X.1 X.2.1 dX9_freeTag_78 (by decide) ?_
        refine lv_goto (tgt := 83) X.1 X.2.1 dX9_freeTag_79 (by decide) ?_
        exact wX9_freeTag_b83 X M hk32 w (lv_sub hl [0, 1, 2] rfl) h
      · rw [if_neg c10] at h
        refine lv_aload_n X.1 X.2.1 dX9_freeTag_55 rfl (lv_at hl 0 rfl) ?_
        refine r_getr (b2 := 1) X w lyM_0 rfl inT9 1 rfl rfl (by decide) rfl tw_903 dX9_freeTag_56 ?_
        refine lv_sipush (v := (338 : Int32)) X.1 X.2.1 dX9_freeTag_59 (by decide) ?_
        refine lv_iload_n X.1 X.2.1 dX9_freeTag_62 rfl (lv_at hl 2 rfl) ?_
        refine lv_iadd X.1 X.2.1 dX9_freeTag_63 ?_
        obtain ⟨hi11, h⟩ := gd_some h
        refine r_iald X w lyM_1 hi11 dX9_freeTag_64 ?_
        refine lv_aload_n X.1 X.2.1 dX9_freeTag_65 rfl (lv_at hl 0 rfl) ?_
        refine r_getr (b2 := 1) X w lyM_0 rfl inT9 1 rfl rfl (by decide) rfl tw_903 dX9_freeTag_66 ?_
        refine lv_sipush (v := (338 : Int32)) X.1 X.2.1 dX9_freeTag_69 (by decide) ?_
        refine lv_iload_n X.1 X.2.1 dX9_freeTag_72 rfl (lv_at hl 1 rfl) ?_
        refine lv_iadd X.1 X.2.1 dX9_freeTag_73 ?_
        obtain ⟨hi12, h⟩ := gd_some h
        refine r_iald X w lyM_1 hi12 dX9_freeTag_74 ?_
        refine lv_icmp_ge (tgt := 82) X.1 X.2.1 dX9_freeTag_75 (by decide) (fun c13 => ?_) (fun c13 => ?_)
        · rw [if_pos c13] at h
          refine lv_iconst (v := (0 : Int32)) X.1 X.2.1 dX9_freeTag_82 (by decide) ?_
          exact wX9_freeTag_b83 X M hk32 w (lv_sub hl [0, 1, 2] rfl) h
        · rw [if_neg c13] at h
          refine lv_iconst (v := (1 : Int32)) X.1 X.2.1 dX9_freeTag_78 (by decide) ?_
          refine lv_goto (tgt := 83) X.1 X.2.1 dX9_freeTag_79 (by decide) ?_
          exact wX9_freeTag_b83 X M hk32 w (lv_sub hl [0, 1, 2] rfl) h
set_option maxRecDepth 100000 in
set_option maxHeartbeats 4000000 in
theorem wX9_freeTag_b32 {p : Program} {l : Launch} {e : Env} {s : State} {m : MethodId} {args : Array Value} {below : List Frame} {meth : Method} {c : Code} {D : va_G} {ca : Nat → ClassId} {ad : Nat → Nat}  {mem' : Mm} {r : Int32} (X : CallFix p m c cX9_freeTag 5 s args TT RX9) (M : Mt meth (some .int))  : ∀ (n : Nat) (mem : Mm) (x2 : Int32) (x3 : Int32) (H : Heap) (locs : List Loc) (ls : Array Slot)  (_ : Wd D ca ad layM (AA ad layM.length) s.heap s mem H locs) (_ : lv_has ls 5 [(0, .ref (ad 0)), (2, .int x2), (3, .int x3)]) (_ : fX9_freeTag_b32  n mem x2 x3 = some (mem', r)), W p l e (rmx 2 44) s m args below meth c H locs 0 0 (EndI D ca ad layM mem' r below args s) (F0 m 32 ls []) := by
  intro n
  induction n with
  | zero => intro mem x2 x3 H locs ls  w hl h; exact (nofun : (none : Option (Mm × Int32)) = _ → _) h
  | succ n ih => intro mem x2 x3 H locs ls  w hl h; exact wX9_freeTag_b32_s X M  ih  w hl h
def fX9_freeTag_b21  (mem : Mm) (x1 : Int32) : Option (Mm × Int32) :=
  if (3 : Int32) ≤ x1 then fX9_freeTag_b32 2000 mem (-1 : Int32) (0 : Int32) else some (mem, x1)
set_option maxRecDepth 100000 in
set_option maxHeartbeats 4000000 in
theorem wX9_freeTag_b21 {p : Program} {l : Launch} {e : Env} {s : State} {m : MethodId} {args : Array Value} {below : List Frame} {meth : Method} {c : Code} {D : va_G} {ca : Nat → ClassId} {ad : Nat → Nat} {H : Heap} {locs : List Loc} {ls : Array Slot} {mem : Mm} {x1 : Int32}  {mem' : Mm} {r : Int32} (X : CallFix p m c cX9_freeTag 5 s args TT RX9) (M : Mt meth (some .int))   (w : Wd D ca ad layM (AA ad layM.length) s.heap s mem H locs) (hl : lv_has ls 5 [(0, .ref (ad 0)), (1, .int x1)]) (h : fX9_freeTag_b21  mem x1 = some (mem', r)) : W p l e (rmx 2 44) s m args below meth c H locs 0 0 (EndI D ca ad layM mem' r below args s) (F0 m 21 ls []) := by
  unfold fX9_freeTag_b21 at h
  refine lv_iload_n X.1 X.2.1 dX9_freeTag_21 rfl (lv_at hl 1 rfl) ?_
  refine lv_iconst (v := (3 : Int32)) X.1 X.2.1 dX9_freeTag_22 (by decide) ?_
  refine lv_icmp_ge (tgt := 28) X.1 X.2.1 dX9_freeTag_23 (by decide) (fun c1 => ?_) (fun c1 => ?_)
  · rw [if_pos c1] at h
    refine lv_iconst (v := (-1 : Int32)) X.1 X.2.1 dX9_freeTag_28 (by decide) ?_
    refine lv_istore_n (lv' := [(2, .int (-1 : Int32)), (0, .ref (ad 0)), (1, .int x1)]) X.1 X.2.1 dX9_freeTag_29 rfl hl (by decide) rfl (fun ls hl => ?_)
    refine lv_iconst (v := (0 : Int32)) X.1 X.2.1 dX9_freeTag_30 (by decide) ?_
    refine lv_istore_n (lv' := [(3, .int (0 : Int32)), (2, .int (-1 : Int32)), (0, .ref (ad 0)), (1, .int x1)]) X.1 X.2.1 dX9_freeTag_31 rfl hl (by decide) rfl (fun ls hl => ?_)
    exact wX9_freeTag_b32 X M _ _ _ _ H locs ls w (lv_sub hl [2, 1, 0] rfl) h
  · rw [if_neg c1] at h
    refine lv_iload_n X.1 X.2.1 dX9_freeTag_26 rfl (lv_at hl 1 rfl) ?_
    obtain ⟨rfl, rfl⟩ := Prod.mk.inj (Option.some.inj h)
    exact r_iret X M w dX9_freeTag_27
def fX9_freeTag_b2_s  (k2 : Mm → Int32 → Option (Mm × Int32)) (mem : Mm) (x1 : Int32) : Option (Mm × Int32) :=
  if (3 : Int32) ≤ x1 then fX9_freeTag_b21 mem x1 else bd (fX9_holder mem x1) (fun r2 => if r2 < 0 then fX9_freeTag_b21 mem x1 else k2 mem (x1 + (1 : Int32)))
def fX9_freeTag_b2  : Nat → Mm → Int32 → Option (Mm × Int32)
  | 0 => fun _ _ => none
  | n + 1 => fX9_freeTag_b2_s  (fX9_freeTag_b2  n)
set_option maxRecDepth 100000 in
set_option maxHeartbeats 4000000 in
theorem wX9_freeTag_b2_s {p : Program} {l : Launch} {e : Env} {s : State} {m : MethodId} {args : Array Value} {below : List Frame} {meth : Method} {c : Code} {D : va_G} {ca : Nat → ClassId} {ad : Nat → Nat} {H : Heap} {locs : List Loc} {ls : Array Slot} {mem : Mm} {x1 : Int32}  {k2 : Mm → Int32 → Option (Mm × Int32)} {mem' : Mm} {r : Int32} (X : CallFix p m c cX9_freeTag 5 s args TT RX9) (M : Mt meth (some .int))  (hk2 : ∀ (mem : Mm) (x1 : Int32) (H : Heap) (locs : List Loc) (ls : Array Slot) , Wd D ca ad layM (AA ad layM.length) s.heap s mem H locs → lv_has ls 5 [(0, .ref (ad 0)), (1, .int x1)] → k2 mem x1 = some (mem', r) → W p l e (rmx 2 44) s m args below meth c H locs 0 0 (EndI D ca ad layM mem' r below args s) (F0 m 2 ls []))  (w : Wd D ca ad layM (AA ad layM.length) s.heap s mem H locs) (hl : lv_has ls 5 [(0, .ref (ad 0)), (1, .int x1)]) (h : fX9_freeTag_b2_s  k2 mem x1 = some (mem', r)) : W p l e (rmx 2 44) s m args below meth c H locs 0 0 (EndI D ca ad layM mem' r below args s) (F0 m 2 ls []) := by
  unfold fX9_freeTag_b2_s at h
  refine lv_iload_n X.1 X.2.1 dX9_freeTag_2 rfl (lv_at hl 1 rfl) ?_
  refine lv_iconst (v := (3 : Int32)) X.1 X.2.1 dX9_freeTag_3 (by decide) ?_
  refine lv_icmp_ge (tgt := 21) X.1 X.2.1 dX9_freeTag_4 (by decide) (fun c1 => ?_) (fun c1 => ?_)
  · rw [if_pos c1] at h
    exact wX9_freeTag_b21 X M w (lv_sub hl [0, 1] rfl) h
  · rw [if_neg c1] at h
    refine lv_aload_n X.1 X.2.1 dX9_freeTag_7 rfl (lv_at hl 0 rfl) ?_
    refine lv_iload_n X.1 X.2.1 dX9_freeTag_8 rfl (lv_at hl 1 rfl) ?_
    obtain ⟨r2, hr2, h⟩ := bd_some h
    refine r_cVi (As := [.int x1]) (rest := []) X w lyM_0 rfl (kX9_holder  l D ca ad mem x1  hr2) (gTV tw_1015 tw_1017 tw_29 tw_75 tw_1018) hdX9_holder (by decide) rfl hl.1 rfl (Nat.le_of_ble_eq_true rfl) dX9_freeTag_9 ⟨Nat.zero_le _, Nat.zero_le _⟩ (fun H locs w => ?_)
    refine lv_if_lt (tgt := 21) X.1 X.2.1 dX9_freeTag_12 (by decide) (fun c3 => ?_) (fun c3 => ?_)
    · rw [if_pos c3] at h
      exact wX9_freeTag_b21 X M w (lv_sub hl [0, 1] rfl) h
    · rw [if_neg c3] at h
      refine lv_iinc (v := (x1 + (1 : Int32))) (lv' := [(1, .int (x1 + (1 : Int32))), (0, .ref (ad 0))]) X.1 X.2.1 dX9_freeTag_15 hl (k := 1) rfl rfl (by decide) rfl (fun ls hl => ?_)
      refine lv_goto (tgt := 2) X.1 X.2.1 dX9_freeTag_18 (by decide) ?_
      exact hk2 _ _ H locs ls w (lv_sub hl [1, 0] rfl) h
set_option maxRecDepth 100000 in
set_option maxHeartbeats 4000000 in
theorem wX9_freeTag_b2 {p : Program} {l : Launch} {e : Env} {s : State} {m : MethodId} {args : Array Value} {below : List Frame} {meth : Method} {c : Code} {D : va_G} {ca : Nat → ClassId} {ad : Nat → Nat}  {mem' : Mm} {r : Int32} (X : CallFix p m c cX9_freeTag 5 s args TT RX9) (M : Mt meth (some .int))  : ∀ (n : Nat) (mem : Mm) (x1 : Int32) (H : Heap) (locs : List Loc) (ls : Array Slot)  (_ : Wd D ca ad layM (AA ad layM.length) s.heap s mem H locs) (_ : lv_has ls 5 [(0, .ref (ad 0)), (1, .int x1)]) (_ : fX9_freeTag_b2  n mem x1 = some (mem', r)), W p l e (rmx 2 44) s m args below meth c H locs 0 0 (EndI D ca ad layM mem' r below args s) (F0 m 2 ls []) := by
  intro n
  induction n with
  | zero => intro mem x1 H locs ls  w hl h; exact (nofun : (none : Option (Mm × Int32)) = _ → _) h
  | succ n ih => intro mem x1 H locs ls  w hl h; exact wX9_freeTag_b2_s X M  ih  w hl h
def fX9_freeTag (mem : Mm)  : Option (Mm × Int32) :=
  fX9_freeTag_b2 2000 mem (0 : Int32)
set_option maxRecDepth 100000 in
set_option maxHeartbeats 4000000 in
theorem kX9_freeTag (l : Launch) (D : va_G) (ca : Nat → ClassId) (ad : Nat → Nat) (mem : Mm)   {mem' : Mm} {r : Int32} (h : fX9_freeTag mem  = some (mem', r)) : CtI l yX9_freeTag cX9_freeTag 5 (some .int) (rmx 2 44) D ca ad layM mem [.ref (ad 0)] mem' r := by
  refine CtI.of (by decide) (Nat.le_of_ble_eq_true rfl) ?_
  intro p e s m args below meth c H locs ls X M w hl
  replace X : CallFix p m c cX9_freeTag 5 s args TT RX9 := X
  replace hl : lv_has ls 5 [(0, .ref (ad 0))] := hl
  unfold fX9_freeTag at h
  refine lv_iconst (v := (0 : Int32)) X.1 X.2.1 dX9_freeTag_0 (by decide) ?_
  refine lv_istore_n (lv' := [(1, .int (0 : Int32)), (0, .ref (ad 0))]) X.1 X.2.1 dX9_freeTag_1 rfl hl (by decide) rfl (fun ls hl => ?_)
  exact wX9_freeTag_b2 X M _ _ _ H locs ls w (lv_sub hl [1, 0] rfl) h
/-! WalkHouseModel.current(I)I (W) -/
theorem hdX9_current : yX9_current.cls = RX9 ∧ yX9_current.cls ≠ "java/lang/invoke/MethodHandle" ∧ yX9_current.cls ≠ "java/lang/invoke/VarHandle" ∧ (parseMethodDescriptor yX9_current.desc).map (fun d => d.parameters.length) = some 1 := by decide +kernel
def fX9_current_b126  (mem : Mm) (x1 : Int32) (s1 : Int32) (s2 : Int32) : Option (Mm × Int32) :=
  gd s1 345 (wk mem 1 s1.toNatClampNeg s2 (fun m2 => gd (344 : Int32) 345 (wk m2 1 (344 : Int32).toNatClampNeg x1 (fun m4 => gd ((332 : Int32) + x1) 345 (some (m4, (m4 1 ((332 : Int32) + x1).toNatClampNeg)))))))
set_option maxRecDepth 100000 in
set_option maxHeartbeats 4000000 in
theorem wX9_current_b126 {p : Program} {l : Launch} {e : Env} {s : State} {m : MethodId} {args : Array Value} {below : List Frame} {meth : Method} {c : Code} {D : va_G} {ca : Nat → ClassId} {ad : Nat → Nat} {H : Heap} {locs : List Loc} {ls : Array Slot} {mem : Mm} {x1 : Int32} {s1 : Int32} {s2 : Int32}  {mem' : Mm} {r : Int32} (X : CallFix p m c cX9_current 2 s args TT RX9) (M : Mt meth (some .int))   (w : Wd D ca ad layM (AA ad layM.length) s.heap s mem H locs) (hl : lv_has ls 2 [(0, .ref (ad 0)), (1, .int x1)]) (h : fX9_current_b126  mem x1 s1 s2 = some (mem', r)) : W p l e (rmx 3 68) s m args below meth c H locs 0 0 (EndI D ca ad layM mem' r below args s) (F0 m 126 ls [.int s2, .int s1, .ref (ad 1)]) := by
  unfold fX9_current_b126 at h
  obtain ⟨hi1, h⟩ := gd_some h
  refine r_iast X w lyM_1 hi1 dX9_current_126 (fun H locs w => ?_)
  obtain ⟨m2, em2, h⟩ := wk_some h
  rw [em2] at w
  refine lv_aload_n X.1 X.2.1 dX9_current_127 rfl (lv_at hl 0 rfl) ?_
  refine r_getr (b2 := 1) X w lyM_0 rfl inT9 1 rfl rfl (by decide) rfl tw_903 dX9_current_128 ?_
  refine lv_sipush (v := (344 : Int32)) X.1 X.2.1 dX9_current_131 (by decide) ?_
  refine lv_iload_n X.1 X.2.1 dX9_current_134 rfl (lv_at hl 1 rfl) ?_
  obtain ⟨hi3, h⟩ := gd_some h
  refine r_iast X w lyM_1 hi3 dX9_current_135 (fun H locs w => ?_)
  obtain ⟨m4, em4, h⟩ := wk_some h
  rw [em4] at w
  refine lv_aload_n X.1 X.2.1 dX9_current_136 rfl (lv_at hl 0 rfl) ?_
  refine r_getr (b2 := 1) X w lyM_0 rfl inT9 1 rfl rfl (by decide) rfl tw_903 dX9_current_137 ?_
  refine lv_sipush (v := (332 : Int32)) X.1 X.2.1 dX9_current_140 (by decide) ?_
  refine lv_iload_n X.1 X.2.1 dX9_current_143 rfl (lv_at hl 1 rfl) ?_
  refine lv_iadd X.1 X.2.1 dX9_current_144 ?_
  obtain ⟨hi5, h⟩ := gd_some h
  refine r_iald X w lyM_1 hi5 dX9_current_145 ?_
  obtain ⟨rfl, rfl⟩ := Prod.mk.inj (Option.some.inj h)
  exact r_iret X M w dX9_current_146
def fX9_current_b87  (mem : Mm) (x1 : Int32) : Option (Mm × Int32) :=
  gd ((332 : Int32) + x1) 345 (if (mem 1 ((332 : Int32) + x1).toNatClampNeg) < 0 then bw (fX9_freeTag mem) (fun m4 r3 => fX9_current_b126 m4 x1 ((332 : Int32) + x1) r3) else gd ((332 : Int32) + x1) 345 (fX9_current_b126 mem x1 ((332 : Int32) + x1) (mem 1 ((332 : Int32) + x1).toNatClampNeg)))
set_option maxRecDepth 100000 in
set_option maxHeartbeats 4000000 in
theorem wX9_current_b87 {p : Program} {l : Launch} {e : Env} {s : State} {m : MethodId} {args : Array Value} {below : List Frame} {meth : Method} {c : Code} {D : va_G} {ca : Nat → ClassId} {ad : Nat → Nat} {H : Heap} {locs : List Loc} {ls : Array Slot} {mem : Mm} {x1 : Int32}  {mem' : Mm} {r : Int32} (X : CallFix p m c cX9_current 2 s args TT RX9) (M : Mt meth (some .int))   (w : Wd D ca ad layM (AA ad layM.length) s.heap s mem H locs) (hl : lv_has ls 2 [(0, .ref (ad 0)), (1, .int x1)]) (h : fX9_current_b87  mem x1 = some (mem', r)) : W p l e (rmx 3 68) s m args below meth c H locs 0 0 (EndI D ca ad layM mem' r below args s) (F0 m 87 ls []) := by
  unfold fX9_current_b87 at h
  refine lv_aload_n X.1 X.2.1 dX9_current_87 rfl (lv_at hl 0 rfl) ?_
  refine r_getr (b2 := 1) X w lyM_0 rfl inT9 1 rfl rfl (by decide) rfl tw_903 dX9_current_88 ?_
  refine lv_sipush (v := (332 : Int32)) X.1 X.2.1 dX9_current_91 (by decide) ?_
  refine lv_iload_n X.1 X.2.1 dX9_current_94 rfl (lv_at hl 1 rfl) ?_
  refine lv_iadd X.1 X.2.1 dX9_current_95 ?_
  refine lv_aload_n X.1 X.2.1 dX9_current_96 rfl (lv_at hl 0 rfl) ?_
  refine r_getr (b2 := 1) X w lyM_0 rfl inT9 1 rfl rfl (by decide) rfl tw_903 dX9_current_97 ?_
  refine lv_sipush (v := (332 : Int32)) X.1 X.2.1 dX9_current_100 (by decide) ?_
  refine lv_iload_n X.1 X.2.1 dX9_current_103 rfl (lv_at hl 1 rfl) ?_
  refine lv_iadd X.1 X.2.1 dX9_current_104 ?_
  obtain ⟨hi1, h⟩ := gd_some h
  refine r_iald X w lyM_1 hi1 dX9_current_105 ?_
  refine lv_if_lt (tgt := 122) X.1 X.2.1 dX9_current_106 (by decide) (fun c2 => ?_) (fun c2 => ?_)
  · rw [if_pos c2] at h
    refine lv_aload_n X.1 X.2.1 dX9_current_122 rfl (lv_at hl 0 rfl) ?_
    obtain ⟨m4, r3, hr3, h⟩ := bw_some h
    refine r_cVi (As := []) (rest := [.int ((332 : Int32) + x1), .ref (ad 1)]) X w lyM_0 rfl (kX9_freeTag  l D ca ad mem   hr3) (gTV tw_1011 tw_1013 tw_28 tw_75 tw_1014) hdX9_freeTag (by decide) rfl hl.1 rfl (Nat.le_of_ble_eq_true rfl) dX9_current_123 ⟨Nat.zero_le _, Nat.zero_le _⟩ (fun H locs w => ?_)
    exact wX9_current_b126 X M w (lv_sub hl [0, 1] rfl) h
  · rw [if_neg c2] at h
    refine lv_aload_n X.1 X.2.1 dX9_current_109 rfl (lv_at hl 0 rfl) ?_
    refine r_getr (b2 := 1) X w lyM_0 rfl inT9 1 rfl rfl (by decide) rfl tw_903 dX9_current_110 ?_
    refine lv_sipush (v := (332 : Int32)) X.1 X.2.1 dX9_current_113 (by decide) ?_
    refine lv_iload_n X.1 X.2.1 dX9_current_116 rfl (lv_at hl 1 rfl) ?_
    refine lv_iadd X.1 X.2.1 dX9_current_117 ?_
    obtain ⟨hi5, h⟩ := gd_some h
    refine r_iald X w lyM_1 hi5 dX9_current_118 ?_
    refine lv_goto (tgt := 126) X.1 X.2.1 dX9_current_119 (by decide) ?_
    exact wX9_current_b126 X M w (lv_sub hl [0, 1] rfl) h
def fX9_current (mem : Mm) (a1 : Int32) : Option (Mm × Int32) :=
  wk mem 0 0 (0 : Int32) (fun m1 => if (fX9_isSpace a1) = 0 then some (m1, (-1 : Int32)) else gd ((326 : Int32) + a1) 345 (if 0 ≤ (m1 1 ((326 : Int32) + a1).toNatClampNeg) then gd (344 : Int32) 345 (if (m1 1 (344 : Int32).toNatClampNeg) = a1 then gd ((332 : Int32) + a1) 345 (some (m1, (m1 1 ((332 : Int32) + a1).toNatClampNeg))) else gd (320 : Int32) 345 (gd (320 : Int32) 345 (wk m1 1 (320 : Int32).toNatClampNeg ((m1 1 (320 : Int32).toNatClampNeg) + (1 : Int32)) (fun m10 => gd (344 : Int32) 345 (if (m10 1 (344 : Int32).toNatClampNeg) < 0 then fX9_current_b87 m10 a1 else gd (344 : Int32) 345 (gd (320 : Int32) 345 (gd ((338 : Int32) + (m10 1 (344 : Int32).toNatClampNeg)) 345 (wk m10 1 ((338 : Int32) + (m10 1 (344 : Int32).toNatClampNeg)).toNatClampNeg (m10 1 (320 : Int32).toNatClampNeg) (fun m16 => fX9_current_b87 m16 a1))))))))) else some (m1, (-1 : Int32))))
set_option maxRecDepth 100000 in
set_option maxHeartbeats 4000000 in
theorem kX9_current (l : Launch) (D : va_G) (ca : Nat → ClassId) (ad : Nat → Nat) (mem : Mm) (a1 : Int32)  {mem' : Mm} {r : Int32} (h : fX9_current mem a1 = some (mem', r)) : CtI l yX9_current cX9_current 2 (some .int) (rmx 3 68) D ca ad layM mem [.ref (ad 0), .int a1] mem' r := by
  refine CtI.of (by decide) (Nat.le_of_ble_eq_true rfl) ?_
  intro p e s m args below meth c H locs ls X M w hl
  replace X : CallFix p m c cX9_current 2 s args TT RX9 := X
  replace hl : lv_has ls 2 [(0, .ref (ad 0)), (1, .int a1)] := hl
  unfold fX9_current at h
  refine lv_aload_n X.1 X.2.1 dX9_current_0 rfl (lv_at hl 0 rfl) ?_
  refine lv_iconst (v := (0 : Int32)) X.1 X.2.1 dX9_current_1 (by decide) ?_
  refine r_put X w lyM_0 rfl inT9 tyX9 tyX9_ok nmX9 0 rfl (by decide) rfl rfl tw_902 rfl rfl dX9_current_2 (fun H locs w => ?_)
  obtain ⟨m1, em1, h⟩ := wk_some h
  rw [em1] at w
  refine lv_iload_n X.1 X.2.1 dX9_current_5 rfl (lv_at hl 1 rfl) ?_
  refine r_cSi (As := [.int a1]) (rest := []) X w (kX9_isSpace  l D ca ad m1 a1  rfl) (gTS tw_1004 tw_1005 tw_75 tw_1006) hdX9_isSpace (by decide) rfl hl.1 rfl (Nat.le_of_ble_eq_true rfl) dX9_current_6 ⟨Nat.zero_le _, Nat.zero_le _⟩ (fun H locs w => ?_)
  refine lv_if_eq (tgt := 25) X.1 X.2.1 dX9_current_9 (by decide) (fun c2 => ?_) (fun c2 => ?_)
  · rw [if_pos c2] at h
    refine lv_iconst (v := (-1 : Int32)) X.1 X.2.1 dX9_current_25 (by decide) ?_
    obtain ⟨rfl, rfl⟩ := Prod.mk.inj (Option.some.inj h)
    exact r_iret X M w dX9_current_26
  · rw [if_neg c2] at h
    refine lv_aload_n X.1 X.2.1 dX9_current_12 rfl (lv_at hl 0 rfl) ?_
    refine r_getr (b2 := 1) X w lyM_0 rfl inT9 1 rfl rfl (by decide) rfl tw_903 dX9_current_13 ?_
    refine lv_sipush (v := (326 : Int32)) X.1 X.2.1 dX9_current_16 (by decide) ?_
    refine lv_iload_n X.1 X.2.1 dX9_current_19 rfl (lv_at hl 1 rfl) ?_
    refine lv_iadd X.1 X.2.1 dX9_current_20 ?_
    obtain ⟨hi3, h⟩ := gd_some h
    refine r_iald X w lyM_1 hi3 dX9_current_21 ?_
    refine lv_if_ge (tgt := 27) X.1 X.2.1 dX9_current_22 (by decide) (fun c4 => ?_) (fun c4 => ?_)
    · rw [if_pos c4] at h
      refine lv_aload_n X.1 X.2.1 dX9_current_27 rfl (lv_at hl 0 rfl) ?_
      refine r_getr (b2 := 1) X w lyM_0 rfl inT9 1 rfl rfl (by decide) rfl tw_903 dX9_current_28 ?_
      refine lv_sipush (v := (344 : Int32)) X.1 X.2.1 dX9_current_31 (by decide) ?_
      obtain ⟨hi5, h⟩ := gd_some h
      refine r_iald X w lyM_1 hi5 dX9_current_34 ?_
      refine lv_iload_n X.1 X.2.1 dX9_current_35 rfl (lv_at hl 1 rfl) ?_
      refine lv_icmp_eq (tgt := 136) X.1 X.2.1 dX9_current_36 (by decide) (fun c6 => ?_) (fun c6 => ?_)
      · rw [if_pos c6] at h
        refine lv_aload_n X.1 X.2.1 dX9_current_136 rfl (lv_at hl 0 rfl) ?_
        refine r_getr (b2 := 1) X w lyM_0 rfl inT9 1 rfl rfl (by decide) rfl tw_903 dX9_current_137 ?_
        refine lv_sipush (v := (332 : Int32)) X.1 X.2.1 dX9_current_140 (by decide) ?_
        refine lv_iload_n X.1 X.2.1 dX9_current_143 rfl (lv_at hl 1 rfl) ?_
        refine lv_iadd X.1 X.2.1 dX9_current_144 ?_
        obtain ⟨hi7, h⟩ := gd_some h
        refine r_iald X w lyM_1 hi7 dX9_current_145 ?_
        obtain ⟨rfl, rfl⟩ := Prod.mk.inj (Option.some.inj h)
        exact r_iret X M w dX9_current_146
      · rw [if_neg c6] at h
        refine lv_aload_n X.1 X.2.1 dX9_current_39 rfl (lv_at hl 0 rfl) ?_
        refine r_getr (b2 := 1) X w lyM_0 rfl inT9 1 rfl rfl (by decide) rfl tw_903 dX9_current_40 ?_
        refine lv_sipush (v := (320 : Int32)) X.1 X.2.1 dX9_current_43 (by decide) ?_
        refine lv_dup2_11 X.1 X.2.1 dX9_current_46 rfl rfl ?_
        obtain ⟨hi8, h⟩ := gd_some h
        refine r_iald X w lyM_1 hi8 dX9_current_47 ?_
        refine lv_iconst (v := (1 : Int32)) X.1 X.2.1 dX9_current_48 (by decide) ?_
        refine lv_iadd X.1 X.2.1 dX9_current_49 ?_
        obtain ⟨hi9, h⟩ := gd_some h
        refine r_iast X w lyM_1 hi9 dX9_current_50 (fun H locs w => ?_)
        obtain ⟨m10, em10, h⟩ := wk_some h
        rw [em10] at w
        refine lv_aload_n X.1 X.2.1 dX9_current_51 rfl (lv_at hl 0 rfl) ?_
        refine r_getr (b2 := 1) X w lyM_0 rfl inT9 1 rfl rfl (by decide) rfl tw_903 dX9_current_52 ?_
        refine lv_sipush (v := (344 : Int32)) X.1 X.2.1 dX9_current_55 (by decide) ?_
        obtain ⟨hi11, h⟩ := gd_some h
        refine r_iald X w lyM_1 hi11 dX9_current_58 ?_
        refine lv_if_lt (tgt := 87) X.1 X.2.1 dX9_current_59 (by decide) (fun c12 => ?_) (fun c12 => ?_)
        · rw [if_pos c12] at h
          exact wX9_current_b87 X M w (lv_sub hl [0, 1] rfl) h
        · rw [if_neg c12] at h
          refine lv_aload_n X.1 X.2.1 dX9_current_62 rfl (lv_at hl 0 rfl) ?_
          refine r_getr (b2 := 1) X w lyM_0 rfl inT9 1 rfl rfl (by decide) rfl tw_903 dX9_current_63 ?_
          refine lv_sipush (v := (338 : Int32)) X.1 X.2.1 dX9_current_66 (by decide) ?_
          refine lv_aload_n X.1 X.2.1 dX9_current_69 rfl (lv_at hl 0 rfl) ?_
          refine r_getr (b2 := 1) X w lyM_0 rfl inT9 1 rfl rfl (by decide) rfl tw_903 dX9_current_70 ?_
          refine lv_sipush (v := (344 : Int32)) X.1 X.2.1 dX9_current_73 (by decide) ?_
          obtain ⟨hi13, h⟩ := gd_some h
          refine r_iald X w lyM_1 hi13 dX9_current_76 ?_
          refine lv_iadd X.1 X.2.1 dX9_current_77 ?_
          refine lv_aload_n X.1 X.2.1 dX9_current_78 rfl (lv_at hl 0 rfl) ?_
          refine r_getr (b2 := 1) X w lyM_0 rfl inT9 1 rfl rfl (by decide) rfl tw_903 dX9_current_79 ?_
          refine lv_sipush (v := (320 : Int32)) X.1 X.2.1 dX9_current_82 (by decide) ?_
          obtain ⟨hi14, h⟩ := gd_some h
          refine r_iald X w lyM_1 hi14 dX9_current_85 ?_
          obtain ⟨hi15, h⟩ := gd_some h
          refine r_iast X w lyM_1 hi15 dX9_current_86 (fun H locs w => ?_)
          obtain ⟨m16, em16, h⟩ := wk_some h
          rw [em16] at w
          exact wX9_current_b87 X M w (lv_sub hl [0, 1] rfl) h
    · rw [if_neg c4] at h
      refine lv_iconst (v := (-1 : Int32)) X.1 X.2.1 dX9_current_25 (by decide) ?_
      obtain ⟨rfl, rfl⟩ := Prod.mk.inj (Option.some.inj h)
      exact r_iret X M w dX9_current_26
/-! WalkHouseModel.isEmpty(I)Z (R) -/
theorem hdX9_isEmpty : yX9_isEmpty.cls = RX9 ∧ yX9_isEmpty.cls ≠ "java/lang/invoke/MethodHandle" ∧ yX9_isEmpty.cls ≠ "java/lang/invoke/VarHandle" ∧ (parseMethodDescriptor yX9_isEmpty.desc).map (fun d => d.parameters.length) = some 1 := by decide +kernel
def fX9_isEmpty (mem : Mm) (a1 : Int32) : Option Int32 :=
  gd a1 345 (if 0 ≤ (mem 1 a1.toNatClampNeg) then some (0 : Int32) else some (1 : Int32))
set_option maxRecDepth 100000 in
set_option maxHeartbeats 4000000 in
theorem kX9_isEmpty (l : Launch) (D : va_G) (ca : Nat → ClassId) (ad : Nat → Nat) (mem : Mm) (a1 : Int32)  {r : Int32} (h : fX9_isEmpty mem a1 = some r) : CtI l yX9_isEmpty cX9_isEmpty 2 (some .boolean) (rmx 0 0) D ca ad layM mem [.ref (ad 0), .int a1] mem r := by
  refine CtI.of (by decide) (Nat.le_of_ble_eq_true rfl) ?_
  intro p e s m args below meth c H locs ls X M w hl
  replace X : CallFix p m c cX9_isEmpty 2 s args TT RX9 := X
  replace hl : lv_has ls 2 [(0, .ref (ad 0)), (1, .int a1)] := hl
  unfold fX9_isEmpty at h
  refine lv_aload_n X.1 X.2.1 dX9_isEmpty_0 rfl (lv_at hl 0 rfl) ?_
  refine r_getr (b2 := 1) X w lyM_0 rfl inT9 1 rfl rfl (by decide) rfl tw_903 dX9_isEmpty_1 ?_
  refine lv_iload_n X.1 X.2.1 dX9_isEmpty_4 rfl (lv_at hl 1 rfl) ?_
  obtain ⟨hi1, h⟩ := gd_some h
  refine r_iald X w lyM_1 hi1 dX9_isEmpty_5 ?_
  refine lv_if_ge (tgt := 13) X.1 X.2.1 dX9_isEmpty_6 (by decide) (fun c2 => ?_) (fun c2 => ?_)
  · rw [if_pos c2] at h
    refine lv_iconst (v := (0 : Int32)) X.1 X.2.1 dX9_isEmpty_13 (by decide) ?_
    obtain rfl := Option.some.inj h
    exact r_zret X M w (by decide) dX9_isEmpty_14
  · rw [if_neg c2] at h
    refine lv_iconst (v := (1 : Int32)) X.1 X.2.1 dX9_isEmpty_9 (by decide) ?_
    refine lv_goto (tgt := 14) X.1 X.2.1 dX9_isEmpty_10 (by decide) ?_
    obtain rfl := Option.some.inj h
    exact r_zret X M w (by decide) dX9_isEmpty_14
/-! WalkHouseModel.isUnder(II)Z (R) -/
theorem hdX9_isUnder : yX9_isUnder.cls = RX9 ∧ yX9_isUnder.cls ≠ "java/lang/invoke/MethodHandle" ∧ yX9_isUnder.cls ≠ "java/lang/invoke/VarHandle" ∧ (parseMethodDescriptor yX9_isUnder.desc).map (fun d => d.parameters.length) = some 2 := by decide +kernel
def fX9_isUnder (mem : Mm) (a1 : Int32) (a2 : Int32) : Option Int32 :=
  bd (fX9_isEmpty mem a1) (fun r1 => if r1 = 0 then gd (a1 + (1 : Int32)) 345 (nz (fX9_wide (mem 1 (a1 + (1 : Int32)).toNatClampNeg)) (gd (a1 + (2 : Int32)) 345 (gd (a1 + (1 : Int32)) 345 (nz (fX9_wide (mem 1 (a1 + (1 : Int32)).toNatClampNeg)) (if (a2 / (fX9_wide (mem 1 (a1 + (1 : Int32)).toNatClampNeg))) = ((mem 1 (a1 + (2 : Int32)).toNatClampNeg) / (fX9_wide (mem 1 (a1 + (1 : Int32)).toNatClampNeg))) then some (1 : Int32) else some (0 : Int32)))))) else some (0 : Int32))
set_option maxRecDepth 100000 in
set_option maxHeartbeats 4000000 in
theorem kX9_isUnder (l : Launch) (D : va_G) (ca : Nat → ClassId) (ad : Nat → Nat) (mem : Mm) (a1 : Int32) (a2 : Int32)  {r : Int32} (h : fX9_isUnder mem a1 a2 = some r) : CtI l yX9_isUnder cX9_isUnder 3 (some .boolean) (rmx 1 21) D ca ad layM mem [.ref (ad 0), .int a1, .int a2] mem r := by
  refine CtI.of (by decide) (Nat.le_of_ble_eq_true rfl) ?_
  intro p e s m args below meth c H locs ls X M w hl
  replace X : CallFix p m c cX9_isUnder 3 s args TT RX9 := X
  replace hl : lv_has ls 3 [(0, .ref (ad 0)), (1, .int a1), (2, .int a2)] := hl
  unfold fX9_isUnder at h
  refine lv_aload_n X.1 X.2.1 dX9_isUnder_0 rfl (lv_at hl 0 rfl) ?_
  refine lv_iload_n X.1 X.2.1 dX9_isUnder_1 rfl (lv_at hl 1 rfl) ?_
  obtain ⟨r1, hr1, h⟩ := bd_some h
  refine r_cVi (As := [.int a1]) (rest := []) X w lyM_0 rfl (kX9_isEmpty  l D ca ad mem a1  hr1) (gTV tw_1062 tw_1064 tw_39 tw_75 tw_1065) hdX9_isEmpty (by decide) rfl hl.1 rfl (Nat.le_of_ble_eq_true rfl) dX9_isUnder_2 ⟨Nat.zero_le _, Nat.zero_le _⟩ (fun H locs w => ?_)
  refine lv_if_ne (tgt := 48) X.1 X.2.1 dX9_isUnder_5 (by decide) (fun c2 => ?_) (fun c2 => ?_)
  · rw [if_neg c2] at h
    refine lv_iconst (v := (0 : Int32)) X.1 X.2.1 dX9_isUnder_48 (by decide) ?_
    obtain rfl := Option.some.inj h
    exact r_zret X M w (by decide) dX9_isUnder_49
  · rw [if_pos c2] at h
    refine lv_iload_n X.1 X.2.1 dX9_isUnder_8 rfl (lv_at hl 2 rfl) ?_
    refine lv_aload_n X.1 X.2.1 dX9_isUnder_9 rfl (lv_at hl 0 rfl) ?_
    refine r_getr (b2 := 1) X w lyM_0 rfl inT9 1 rfl rfl (by decide) rfl tw_903 dX9_isUnder_10 ?_
    refine lv_iload_n X.1 X.2.1 dX9_isUnder_13 rfl (lv_at hl 1 rfl) ?_
    refine lv_iconst (v := (1 : Int32)) X.1 X.2.1 dX9_isUnder_14 (by decide) ?_
    refine lv_iadd X.1 X.2.1 dX9_isUnder_15 ?_
    obtain ⟨hi3, h⟩ := gd_some h
    refine r_iald X w lyM_1 hi3 dX9_isUnder_16 ?_
    refine r_cSi (As := [.int (mem 1 (a1 + (1 : Int32)).toNatClampNeg)]) (rest := [.int a2]) X w (kX9_wide  l D ca ad mem (mem 1 (a1 + (1 : Int32)).toNatClampNeg)  rfl) (gTS tw_1066 tw_1067 tw_75 tw_1068) hdX9_wide (by decide) rfl hl.1 rfl (Nat.le_of_ble_eq_true rfl) dX9_isUnder_17 ⟨Nat.zero_le _, Nat.zero_le _⟩ (fun H locs w => ?_)
    obtain ⟨hz4, h⟩ := nz_some h
    refine lv_idiv X.1 X.2.1 dX9_isUnder_20 hz4 ?_
    refine lv_aload_n X.1 X.2.1 dX9_isUnder_21 rfl (lv_at hl 0 rfl) ?_
    refine r_getr (b2 := 1) X w lyM_0 rfl inT9 1 rfl rfl (by decide) rfl tw_903 dX9_isUnder_22 ?_
    refine lv_iload_n X.1 X.2.1 dX9_isUnder_25 rfl (lv_at hl 1 rfl) ?_
    refine lv_iconst (v := (2 : Int32)) X.1 X.2.1 dX9_isUnder_26 (by decide) ?_
    refine lv_iadd X.1 X.2.1 dX9_isUnder_27 ?_
    obtain ⟨hi5, h⟩ := gd_some h
    refine r_iald X w lyM_1 hi5 dX9_isUnder_28 ?_
    refine lv_aload_n X.1 X.2.1 dX9_isUnder_29 rfl (lv_at hl 0 rfl) ?_
    refine r_getr (b2 := 1) X w lyM_0 rfl inT9 1 rfl rfl (by decide) rfl tw_903 dX9_isUnder_30 ?_
    refine lv_iload_n X.1 X.2.1 dX9_isUnder_33 rfl (lv_at hl 1 rfl) ?_
    refine lv_iconst (v := (1 : Int32)) X.1 X.2.1 dX9_isUnder_34 (by decide) ?_
    refine lv_iadd X.1 X.2.1 dX9_isUnder_35 ?_
    obtain ⟨hi6, h⟩ := gd_some h
    refine r_iald X w lyM_1 hi6 dX9_isUnder_36 ?_
    refine r_cSi (As := [.int (mem 1 (a1 + (1 : Int32)).toNatClampNeg)]) (rest := [.int (mem 1 (a1 + (2 : Int32)).toNatClampNeg), .int (a2 / (fX9_wide (mem 1 (a1 + (1 : Int32)).toNatClampNeg)))]) X w (kX9_wide  l D ca ad mem (mem 1 (a1 + (1 : Int32)).toNatClampNeg)  rfl) (gTS tw_1066 tw_1067 tw_75 tw_1068) hdX9_wide (by decide) rfl hl.1 rfl (Nat.le_of_ble_eq_true rfl) dX9_isUnder_37 ⟨Nat.zero_le _, Nat.zero_le _⟩ (fun H locs w => ?_)
    obtain ⟨hz7, h⟩ := nz_some h
    refine lv_idiv X.1 X.2.1 dX9_isUnder_40 hz7 ?_
    refine lv_icmp_ne (tgt := 48) X.1 X.2.1 dX9_isUnder_41 (by decide) (fun c8 => ?_) (fun c8 => ?_)
    · rw [if_neg c8] at h
      refine lv_iconst (v := (0 : Int32)) X.1 X.2.1 dX9_isUnder_48 (by decide) ?_
      obtain rfl := Option.some.inj h
      exact r_zret X M w (by decide) dX9_isUnder_49
    · rw [if_pos c8] at h
      refine lv_iconst (v := (1 : Int32)) X.1 X.2.1 dX9_isUnder_44 (by decide) ?_
      refine lv_goto (tgt := 49) X.1 X.2.1 dX9_isUnder_45 (by decide) ?_
      obtain rfl := Option.some.inj h
      exact r_zret X M w (by decide) dX9_isUnder_49
/-! WalkHouseModel.isUsed(I)V (W) -/
theorem hdX9_isUsed : yX9_isUsed.cls = RX9 ∧ yX9_isUsed.cls ≠ "java/lang/invoke/MethodHandle" ∧ yX9_isUsed.cls ≠ "java/lang/invoke/VarHandle" ∧ (parseMethodDescriptor yX9_isUsed.desc).map (fun d => d.parameters.length) = some 1 := by decide +kernel
def fX9_isUsed (mem : Mm) (a1 : Int32) : Option (Mm × Unit) :=
  gd (320 : Int32) 345 (gd (320 : Int32) 345 (wk mem 1 (320 : Int32).toNatClampNeg ((mem 1 (320 : Int32).toNatClampNeg) + (1 : Int32)) (fun m3 => gd (320 : Int32) 345 (gd (a1 + (6 : Int32)) 345 (wk m3 1 (a1 + (6 : Int32)).toNatClampNeg (m3 1 (320 : Int32).toNatClampNeg) (fun m6 => some (m6, ())))))))
set_option maxRecDepth 100000 in
set_option maxHeartbeats 4000000 in
theorem kX9_isUsed (l : Launch) (D : va_G) (ca : Nat → ClassId) (ad : Nat → Nat) (mem : Mm) (a1 : Int32)  {mem' : Mm} {r : Unit} (h : fX9_isUsed mem a1 = some (mem', r)) : CtV l yX9_isUsed cX9_isUsed 2 none (rmx 0 0) D ca ad layM mem [.ref (ad 0), .int a1] mem' := by
  refine CtV.of (by decide) (Nat.le_of_ble_eq_true rfl) ?_
  intro p e s m args below meth c H locs ls X M w hl
  replace X : CallFix p m c cX9_isUsed 2 s args TT RX9 := X
  replace hl : lv_has ls 2 [(0, .ref (ad 0)), (1, .int a1)] := hl
  unfold fX9_isUsed at h
  refine lv_aload_n X.1 X.2.1 dX9_isUsed_0 rfl (lv_at hl 0 rfl) ?_
  refine r_getr (b2 := 1) X w lyM_0 rfl inT9 1 rfl rfl (by decide) rfl tw_903 dX9_isUsed_1 ?_
  refine lv_sipush (v := (320 : Int32)) X.1 X.2.1 dX9_isUsed_4 (by decide) ?_
  refine lv_dup2_11 X.1 X.2.1 dX9_isUsed_7 rfl rfl ?_
  obtain ⟨hi1, h⟩ := gd_some h
  refine r_iald X w lyM_1 hi1 dX9_isUsed_8 ?_
  refine lv_iconst (v := (1 : Int32)) X.1 X.2.1 dX9_isUsed_9 (by decide) ?_
  refine lv_iadd X.1 X.2.1 dX9_isUsed_10 ?_
  obtain ⟨hi2, h⟩ := gd_some h
  refine r_iast X w lyM_1 hi2 dX9_isUsed_11 (fun H locs w => ?_)
  obtain ⟨m3, em3, h⟩ := wk_some h
  rw [em3] at w
  refine lv_aload_n X.1 X.2.1 dX9_isUsed_12 rfl (lv_at hl 0 rfl) ?_
  refine r_getr (b2 := 1) X w lyM_0 rfl inT9 1 rfl rfl (by decide) rfl tw_903 dX9_isUsed_13 ?_
  refine lv_iload_n X.1 X.2.1 dX9_isUsed_16 rfl (lv_at hl 1 rfl) ?_
  refine lv_bipush (v := (6 : Int32)) X.1 X.2.1 dX9_isUsed_17 (by decide) ?_
  refine lv_iadd X.1 X.2.1 dX9_isUsed_19 ?_
  refine lv_aload_n X.1 X.2.1 dX9_isUsed_20 rfl (lv_at hl 0 rfl) ?_
  refine r_getr (b2 := 1) X w lyM_0 rfl inT9 1 rfl rfl (by decide) rfl tw_903 dX9_isUsed_21 ?_
  refine lv_sipush (v := (320 : Int32)) X.1 X.2.1 dX9_isUsed_24 (by decide) ?_
  obtain ⟨hi4, h⟩ := gd_some h
  refine r_iald X w lyM_1 hi4 dX9_isUsed_27 ?_
  obtain ⟨hi5, h⟩ := gd_some h
  refine r_iast X w lyM_1 hi5 dX9_isUsed_28 (fun H locs w => ?_)
  obtain ⟨m6, em6, h⟩ := wk_some h
  rw [em6] at w
  obtain ⟨rfl, -⟩ := Prod.mk.inj (Option.some.inj h)
  exact r_vret X M w dX9_isUsed_29
/-! WalkHouseModel.roomIn(IIII)I (R) -/
theorem hdX9_roomIn : yX9_roomIn.cls = RX9 ∧ yX9_roomIn.cls ≠ "java/lang/invoke/MethodHandle" ∧ yX9_roomIn.cls ≠ "java/lang/invoke/VarHandle" ∧ (parseMethodDescriptor yX9_roomIn.desc).map (fun d => d.parameters.length) = some 4 := by decide +kernel
def fX9_roomIn_b80 (k9 : Mm → Int32 → Int32 → Int32 → Int32 → Int32 → Int32 → Int32 → Option Int32) (mem : Mm) (x1 : Int32) (x2 : Int32) (x3 : Int32) (x4 : Int32) (x6 : Int32) (x7 : Int32) (x8 : Int32) (s0 : Int32) : Option Int32 :=
  gd (x8 + (6 : Int32)) 345 (gd (x6 + (6 : Int32)) 345 (if (mem 1 (x6 + (6 : Int32)).toNatClampNeg) ≤ (mem 1 (x8 + (6 : Int32)).toNatClampNeg) then k9 mem x1 x2 x3 x4 s0 x6 (x7 + (-1 : Int32)) else k9 mem x1 x2 x3 x4 s0 x8 (x7 + (-1 : Int32))))
set_option maxRecDepth 100000 in
set_option maxHeartbeats 4000000 in
theorem wX9_roomIn_b80 {p : Program} {l : Launch} {e : Env} {s : State} {m : MethodId} {args : Array Value} {below : List Frame} {meth : Method} {c : Code} {D : va_G} {ca : Nat → ClassId} {ad : Nat → Nat} {H : Heap} {locs : List Loc} {ls : Array Slot} {mem : Mm} {x1 : Int32} {x2 : Int32} {x3 : Int32} {x4 : Int32} {x6 : Int32} {x7 : Int32} {x8 : Int32} {s0 : Int32} {k9 : Mm → Int32 → Int32 → Int32 → Int32 → Int32 → Int32 → Int32 → Option Int32} {r : Int32} (X : CallFix p m c cX9_roomIn 9 s args TT RX9) (M : Mt meth (some .int)) (hk9 : ∀ (x1 : Int32) (x2 : Int32) (x3 : Int32) (x4 : Int32) (x5 : Int32) (x6 : Int32) (x7 : Int32) (H : Heap) (locs : List Loc) (ls : Array Slot) , Wd D ca ad layM (AA ad layM.length) s.heap s mem H locs → lv_has ls 9 [(0, .ref (ad 0)), (1, .int x1), (2, .int x2), (3, .int x3), (4, .int x4), (5, .int x5), (6, .int x6), (7, .int x7)] → k9 mem x1 x2 x3 x4 x5 x6 x7 = some r → W p l e (rmx 1 21) s m args below meth c H locs 0 0 (EndI D ca ad layM mem r below args s) (F0 m 9 ls []))  (w : Wd D ca ad layM (AA ad layM.length) s.heap s mem H locs) (hl : lv_has ls 9 [(0, .ref (ad 0)), (1, .int x1), (2, .int x2), (3, .int x3), (4, .int x4), (6, .int x6), (7, .int x7), (8, .int x8)]) (h : fX9_roomIn_b80 k9 mem x1 x2 x3 x4 x6 x7 x8 s0 = some r) : W p l e (rmx 1 21) s m args below meth c H locs 0 0 (EndI D ca ad layM mem r below args s) (F0 m 80 ls [.int s0]) := by
  unfold fX9_roomIn_b80 at h
  refine lv_istore (lv' := [(5, .int s0), (0, .ref (ad 0)), (1, .int x1), (2, .int x2), (3, .int x3), (4, .int x4), (6, .int x6), (7, .int x7), (8, .int x8)]) X.1 X.2.1 dX9_roomIn_80 hl (by decide) rfl (fun ls hl => ?_)
  refine lv_aload_n X.1 X.2.1 dX9_roomIn_82 rfl (lv_at hl 1 rfl) ?_
  refine r_getr (b2 := 1) X w lyM_0 rfl inT9 1 rfl rfl (by decide) rfl tw_903 dX9_roomIn_83 ?_
  refine lv_iload X.1 X.2.1 dX9_roomIn_86 (lv_at hl 8 rfl) ?_
  refine lv_bipush (v := (6 : Int32)) X.1 X.2.1 dX9_roomIn_88 (by decide) ?_
  refine lv_iadd X.1 X.2.1 dX9_roomIn_90 ?_
  obtain ⟨hi1, h⟩ := gd_some h
  refine r_iald X w lyM_1 hi1 dX9_roomIn_91 ?_
  refine lv_aload_n X.1 X.2.1 dX9_roomIn_92 rfl (lv_at hl 1 rfl) ?_
  refine r_getr (b2 := 1) X w lyM_0 rfl inT9 1 rfl rfl (by decide) rfl tw_903 dX9_roomIn_93 ?_
  refine lv_iload X.1 X.2.1 dX9_roomIn_96 (lv_at hl 6 rfl) ?_
  refine lv_bipush (v := (6 : Int32)) X.1 X.2.1 dX9_roomIn_98 (by decide) ?_
  refine lv_iadd X.1 X.2.1 dX9_roomIn_100 ?_
  obtain ⟨hi2, h⟩ := gd_some h
  refine r_iald X w lyM_1 hi2 dX9_roomIn_101 ?_
  refine lv_icmp_ge (tgt := 110) X.1 X.2.1 dX9_roomIn_102 (by decide) (fun c3 => ?_) (fun c3 => ?_)
  · rw [if_pos c3] at h
    refine lv_iload X.1 X.2.1 dX9_roomIn_110 (lv_at hl 6 rfl) ?_
    refine lv_istore (lv' := [(6, .int x6), (5, .int s0), (0, .ref (ad 0)), (1, .int x1), (2, .int x2), (3, .int x3), (4, .int x4), (7, .int x7), (8, .int x8)]) X.1 X.2.1 dX9_roomIn_112 hl (by decide) rfl (fun ls hl => ?_)
    refine lv_iinc (v := (x7 + (-1 : Int32))) (lv' := [(7, .int (x7 + (-1 : Int32))), (6, .int x6), (5, .int s0), (0, .ref (ad 0)), (1, .int x1), (2, .int x2), (3, .int x3), (4, .int x4), (8, .int x8)]) X.1 X.2.1 dX9_roomIn_114 hl (k := 7) rfl rfl (by decide) rfl (fun ls hl => ?_)
    refine lv_goto (tgt := 9) X.1 X.2.1 dX9_roomIn_117 (by decide) ?_
    exact hk9 _ _ _ _ _ _ _ H locs ls w (lv_sub hl [3, 4, 5, 6, 7, 2, 1, 0] rfl) h
  · rw [if_neg c3] at h
    refine lv_iload X.1 X.2.1 dX9_roomIn_105 (lv_at hl 8 rfl) ?_
    refine lv_goto (tgt := 112) X.1 X.2.1 dX9_roomIn_107 (by decide) ?_
    refine lv_istore (lv' := [(6, .int x8), (5, .int s0), (0, .ref (ad 0)), (1, .int x1), (2, .int x2), (3, .int x3), (4, .int x4), (7, .int x7), (8, .int x8)]) X.1 X.2.1 dX9_roomIn_112 hl (by decide) rfl (fun ls hl => ?_)
    refine lv_iinc (v := (x7 + (-1 : Int32))) (lv' := [(7, .int (x7 + (-1 : Int32))), (6, .int x8), (5, .int s0), (0, .ref (ad 0)), (1, .int x1), (2, .int x2), (3, .int x3), (4, .int x4), (8, .int x8)]) X.1 X.2.1 dX9_roomIn_114 hl (k := 7) rfl rfl (by decide) rfl (fun ls hl => ?_)
    refine lv_goto (tgt := 9) X.1 X.2.1 dX9_roomIn_117 (by decide) ?_
    exact hk9 _ _ _ _ _ _ _ H locs ls w (lv_sub hl [3, 4, 5, 6, 7, 2, 1, 0] rfl) h
def fX9_roomIn_b64 (k9 : Mm → Int32 → Int32 → Int32 → Int32 → Int32 → Int32 → Int32 → Option Int32) (mem : Mm) (x1 : Int32) (x2 : Int32) (x3 : Int32) (x4 : Int32) (x5 : Int32) (x6 : Int32) (x7 : Int32) (x8 : Int32) : Option Int32 :=
  bd (fX9_isEmpty mem x8) (fun r1 => if r1 = 0 then fX9_roomIn_b80 k9 mem x1 x2 x3 x4 x6 x7 x8 x5 else fX9_roomIn_b80 k9 mem x1 x2 x3 x4 x6 x7 x8 x8)
set_option maxRecDepth 100000 in
set_option maxHeartbeats 4000000 in
theorem wX9_roomIn_b64 {p : Program} {l : Launch} {e : Env} {s : State} {m : MethodId} {args : Array Value} {below : List Frame} {meth : Method} {c : Code} {D : va_G} {ca : Nat → ClassId} {ad : Nat → Nat} {H : Heap} {locs : List Loc} {ls : Array Slot} {mem : Mm} {x1 : Int32} {x2 : Int32} {x3 : Int32} {x4 : Int32} {x5 : Int32} {x6 : Int32} {x7 : Int32} {x8 : Int32} {k9 : Mm → Int32 → Int32 → Int32 → Int32 → Int32 → Int32 → Int32 → Option Int32} {r : Int32} (X : CallFix p m c cX9_roomIn 9 s args TT RX9) (M : Mt meth (some .int)) (hk9 : ∀ (x1 : Int32) (x2 : Int32) (x3 : Int32) (x4 : Int32) (x5 : Int32) (x6 : Int32) (x7 : Int32) (H : Heap) (locs : List Loc) (ls : Array Slot) , Wd D ca ad layM (AA ad layM.length) s.heap s mem H locs → lv_has ls 9 [(0, .ref (ad 0)), (1, .int x1), (2, .int x2), (3, .int x3), (4, .int x4), (5, .int x5), (6, .int x6), (7, .int x7)] → k9 mem x1 x2 x3 x4 x5 x6 x7 = some r → W p l e (rmx 1 21) s m args below meth c H locs 0 0 (EndI D ca ad layM mem r below args s) (F0 m 9 ls []))  (w : Wd D ca ad layM (AA ad layM.length) s.heap s mem H locs) (hl : lv_has ls 9 [(0, .ref (ad 0)), (1, .int x1), (2, .int x2), (3, .int x3), (4, .int x4), (5, .int x5), (6, .int x6), (7, .int x7), (8, .int x8)]) (h : fX9_roomIn_b64 k9 mem x1 x2 x3 x4 x5 x6 x7 x8 = some r) : W p l e (rmx 1 21) s m args below meth c H locs 0 0 (EndI D ca ad layM mem r below args s) (F0 m 64 ls []) := by
  unfold fX9_roomIn_b64 at h
  refine lv_aload_n X.1 X.2.1 dX9_roomIn_64 rfl (lv_at hl 0 rfl) ?_
  refine lv_iload X.1 X.2.1 dX9_roomIn_65 (lv_at hl 8 rfl) ?_
  obtain ⟨r1, hr1, h⟩ := bd_some h
  refine r_cVi (As := [.int x8]) (rest := []) X w lyM_0 rfl (kX9_isEmpty  l D ca ad mem x8  hr1) (gTV tw_1062 tw_1064 tw_39 tw_75 tw_1065) hdX9_isEmpty (by decide) rfl hl.1 rfl (Nat.le_of_ble_eq_true rfl) dX9_roomIn_67 ⟨Nat.zero_le _, Nat.zero_le _⟩ (fun H locs w => ?_)
  refine lv_if_eq (tgt := 78) X.1 X.2.1 dX9_roomIn_70 (by decide) (fun c2 => ?_) (fun c2 => ?_)
  · rw [if_pos c2] at h
    refine lv_iload X.1 X.2.1 dX9_roomIn_78 (lv_at hl 5 rfl) ?_
    exact wX9_roomIn_b80 X M hk9 w (lv_sub hl [0, 1, 2, 3, 4, 6, 7, 8] rfl) h
  · rw [if_neg c2] at h
    refine lv_iload X.1 X.2.1 dX9_roomIn_73 (lv_at hl 8 rfl) ?_
    refine lv_goto (tgt := 80) X.1 X.2.1 dX9_roomIn_75 (by decide) ?_
    exact wX9_roomIn_b80 X M hk9 w (lv_sub hl [0, 1, 2, 3, 4, 6, 7, 8] rfl) h
def fX9_roomIn_b9_s  (k9 : Mm → Int32 → Int32 → Int32 → Int32 → Int32 → Int32 → Int32 → Option Int32) (mem : Mm) (x1 : Int32) (x2 : Int32) (x3 : Int32) (x4 : Int32) (x5 : Int32) (x6 : Int32) (x7 : Int32) : Option Int32 :=
  if x7 < 0 then if x5 < 0 then some x6 else some x5 else lk (x1 + ((7 : Int32) * x7)) (fun x_3 => gd x_3 345 (if (mem 1 x_3.toNatClampNeg) = x2 then gd (x_3 + (1 : Int32)) 345 (if (mem 1 (x_3 + (1 : Int32)).toNatClampNeg) = x3 then gd (x_3 + (2 : Int32)) 345 (if (mem 1 (x_3 + (2 : Int32)).toNatClampNeg) = x4 then some x_3 else fX9_roomIn_b64 k9 mem x1 x2 x3 x4 x5 x6 x7 x_3) else fX9_roomIn_b64 k9 mem x1 x2 x3 x4 x5 x6 x7 x_3) else fX9_roomIn_b64 k9 mem x1 x2 x3 x4 x5 x6 x7 x_3))
def fX9_roomIn_b9  : Nat → Mm → Int32 → Int32 → Int32 → Int32 → Int32 → Int32 → Int32 → Option Int32
  | 0 => fun _ _ _ _ _ _ _ _ => none
  | n + 1 => fX9_roomIn_b9_s  (fX9_roomIn_b9  n)
set_option maxRecDepth 100000 in
set_option maxHeartbeats 4000000 in
theorem wX9_roomIn_b9_s {p : Program} {l : Launch} {e : Env} {s : State} {m : MethodId} {args : Array Value} {below : List Frame} {meth : Method} {c : Code} {D : va_G} {ca : Nat → ClassId} {ad : Nat → Nat} {H : Heap} {locs : List Loc} {ls : Array Slot} {mem : Mm} {x1 : Int32} {x2 : Int32} {x3 : Int32} {x4 : Int32} {x5 : Int32} {x6 : Int32} {x7 : Int32}  {k9 : Mm → Int32 → Int32 → Int32 → Int32 → Int32 → Int32 → Int32 → Option Int32} {r : Int32} (X : CallFix p m c cX9_roomIn 9 s args TT RX9) (M : Mt meth (some .int))  (hk9 : ∀ (x1 : Int32) (x2 : Int32) (x3 : Int32) (x4 : Int32) (x5 : Int32) (x6 : Int32) (x7 : Int32) (H : Heap) (locs : List Loc) (ls : Array Slot) , Wd D ca ad layM (AA ad layM.length) s.heap s mem H locs → lv_has ls 9 [(0, .ref (ad 0)), (1, .int x1), (2, .int x2), (3, .int x3), (4, .int x4), (5, .int x5), (6, .int x6), (7, .int x7)] → k9 mem x1 x2 x3 x4 x5 x6 x7 = some r → W p l e (rmx 1 21) s m args below meth c H locs 0 0 (EndI D ca ad layM mem r below args s) (F0 m 9 ls []))  (w : Wd D ca ad layM (AA ad layM.length) s.heap s mem H locs) (hl : lv_has ls 9 [(0, .ref (ad 0)), (1, .int x1), (2, .int x2), (3, .int x3), (4, .int x4), (5, .int x5), (6, .int x6), (7, .int x7)]) (h : fX9_roomIn_b9_s  k9 mem x1 x2 x3 x4 x5 x6 x7 = some r) : W p l e (rmx 1 21) s m args below meth c H locs 0 0 (EndI D ca ad layM mem r below args s) (F0 m 9 ls []) := by
  unfold fX9_roomIn_b9_s at h
  refine lv_iload X.1 X.2.1 dX9_roomIn_9 (lv_at hl 7 rfl) ?_
  refine lv_if_lt (tgt := 120) X.1 X.2.1 dX9_roomIn_11 (by decide) (fun c1 => ?_) (fun c1 => ?_)
  · rw [if_pos c1] at h
    refine lv_iload X.1 X.2.1 dX9_roomIn_120 (lv_at hl 5 rfl) ?_
    refine lv_if_lt (tgt := 130) X.1 X.2.1 dX9_roomIn_122 (by decide) (fun c2 => ?_) (fun c2 => ?_)
    · rw [if_pos c2] at h
      refine lv_iload X.1 X.2.1 dX9_roomIn_130 (lv_at hl 6 rfl) ?_
      obtain rfl := Option.some.inj h
      exact r_iret X M w dX9_roomIn_132
    · rw [if_neg c2] at h
      refine lv_iload X.1 X.2.1 dX9_roomIn_125 (lv_at hl 5 rfl) ?_
      refine lv_goto (tgt := 132) X.1 X.2.1 dX9_roomIn_127 (by decide) ?_
      obtain rfl := Option.some.inj h
      exact r_iret X M w dX9_roomIn_132
  · rw [if_neg c1] at h
    refine lv_iload_n X.1 X.2.1 dX9_roomIn_14 rfl (lv_at hl 1 rfl) ?_
    refine lv_bipush (v := (7 : Int32)) X.1 X.2.1 dX9_roomIn_15 (by decide) ?_
    refine lv_iload X.1 X.2.1 dX9_roomIn_17 (lv_at hl 7 rfl) ?_
    refine lv_imul X.1 X.2.1 dX9_roomIn_19 ?_
    refine lv_iadd X.1 X.2.1 dX9_roomIn_20 ?_
    obtain ⟨x_3, ex_3, h⟩ := lk_some h
    refine lv_name ex_3 ?_
    refine lv_istore (lv' := [(8, .int x_3), (0, .ref (ad 0)), (1, .int x1), (2, .int x2), (3, .int x3), (4, .int x4), (5, .int x5), (6, .int x6), (7, .int x7)]) X.1 X.2.1 dX9_roomIn_21 hl (by decide) rfl (fun ls hl => ?_)
    refine lv_aload_n X.1 X.2.1 dX9_roomIn_23 rfl (lv_at hl 1 rfl) ?_
    refine r_getr (b2 := 1) X w lyM_0 rfl inT9 1 rfl rfl (by decide) rfl tw_903 dX9_roomIn_24 ?_
    refine lv_iload X.1 X.2.1 dX9_roomIn_27 (lv_at hl 0 rfl) ?_
    obtain ⟨hi4, h⟩ := gd_some h
    refine r_iald X w lyM_1 hi4 dX9_roomIn_29 ?_
    refine lv_iload_n X.1 X.2.1 dX9_roomIn_30 rfl (lv_at hl 3 rfl) ?_
    refine lv_icmp_ne (tgt := 64) X.1 X.2.1 dX9_roomIn_31 (by decide) (fun c5 => ?_) (fun c5 => ?_)
    · rw [if_neg c5] at h
      exact wX9_roomIn_b64 X M hk9 w (lv_sub hl [1, 2, 3, 4, 5, 6, 7, 8, 0] rfl) h
    · rw [if_pos c5] at h
      refine lv_aload_n X.1 X.2.1 dX9_roomIn_34 rfl (lv_at hl 1 rfl) ?_
      refine r_getr (b2 := 1) X w lyM_0 rfl inT9 1 rfl rfl (by decide) rfl tw_903 dX9_roomIn_35 ?_
      refine lv_iload X.1 X.2.1 dX9_roomIn_38 (lv_at hl 0 rfl) ?_
      refine lv_iconst (v := (1 : Int32)) X.1 X.2.1 dX9_roomIn_40 (by decide) ?_
      refine lv_iadd X.1 X.2.1 dX9_roomIn_41 ?_
      obtain ⟨hi6, h⟩ := gd_some h
      refine r_iald X w lyM_1 hi6 dX9_roomIn_42 ?_
      refine lv_iload_n X.1 X.2.1 dX9_roomIn_43 rfl (lv_at hl 4 rfl) ?_
      refine lv_icmp_ne (tgt := 64) X.1 X.2.1 dX9_roomIn_44 (by decide) (fun c7 => ?_) (fun c7 => ?_)
      · rw [if_neg c7] at h
        exact wX9_roomIn_b64 X M hk9 w (lv_sub hl [1, 2, 3, 4, 5, 6, 7, 8, 0] rfl) h
      · rw [if_pos c7] at h
        refine lv_aload_n X.1 X.2.1 dX9_roomIn_47 rfl (lv_at hl 1 rfl) ?_
        refine r_getr (b2 := 1) X w lyM_0 rfl inT9 1 rfl rfl (by decide) rfl tw_903 dX9_roomIn_48 ?_
        refine lv_iload X.1 X.2.1 dX9_roomIn_51 (lv_at hl 0 rfl) ?_
        refine lv_iconst (v := (2 : Int32)) X.1 X.2.1 dX9_roomIn_53 (by decide) ?_
        refine lv_iadd X.1 X.2.1 dX9_roomIn_54 ?_
        obtain ⟨hi8, h⟩ := gd_some h
        refine r_iald X w lyM_1 hi8 dX9_roomIn_55 ?_
        refine lv_iload X.1 X.2.1 dX9_roomIn_56 (lv_at hl 5 rfl) ?_
        refine lv_icmp_ne (tgt := 64) X.1 X.2.1 dX9_roomIn_58 (by decide) (fun c9 => ?_) (fun c9 => ?_)
        · rw [if_neg c9] at h
          exact wX9_roomIn_b64 X M hk9 w (lv_sub hl [1, 2, 3, 4, 5, 6, 7, 8, 0] rfl) h
        · rw [if_pos c9] at h
          refine lv_iload X.1 X.2.1 dX9_roomIn_61 (lv_at hl 0 rfl) ?_
          obtain rfl := Option.some.inj h
          exact r_iret X M w dX9_roomIn_63
set_option maxRecDepth 100000 in
set_option maxHeartbeats 4000000 in
theorem wX9_roomIn_b9 {p : Program} {l : Launch} {e : Env} {s : State} {m : MethodId} {args : Array Value} {below : List Frame} {meth : Method} {c : Code} {D : va_G} {ca : Nat → ClassId} {ad : Nat → Nat} {mem : Mm}  {r : Int32} (X : CallFix p m c cX9_roomIn 9 s args TT RX9) (M : Mt meth (some .int))  : ∀ (n : Nat) (x1 : Int32) (x2 : Int32) (x3 : Int32) (x4 : Int32) (x5 : Int32) (x6 : Int32) (x7 : Int32) (H : Heap) (locs : List Loc) (ls : Array Slot)  (_ : Wd D ca ad layM (AA ad layM.length) s.heap s mem H locs) (_ : lv_has ls 9 [(0, .ref (ad 0)), (1, .int x1), (2, .int x2), (3, .int x3), (4, .int x4), (5, .int x5), (6, .int x6), (7, .int x7)]) (_ : fX9_roomIn_b9  n mem x1 x2 x3 x4 x5 x6 x7 = some r), W p l e (rmx 1 21) s m args below meth c H locs 0 0 (EndI D ca ad layM mem r below args s) (F0 m 9 ls []) := by
  intro n
  induction n with
  | zero => intro x1 x2 x3 x4 x5 x6 x7 H locs ls  w hl h; exact (nofun : (none : Option Int32) = _ → _) h
  | succ n ih => intro x1 x2 x3 x4 x5 x6 x7 H locs ls  w hl h; exact wX9_roomIn_b9_s X M  ih  w hl h
def fX9_roomIn (mem : Mm) (a1 : Int32) (a2 : Int32) (a3 : Int32) (a4 : Int32) : Option Int32 :=
  fX9_roomIn_b9 2000 mem a1 a2 a3 a4 (-1 : Int32) a1 (5 : Int32)
set_option maxRecDepth 100000 in
set_option maxHeartbeats 4000000 in
theorem kX9_roomIn (l : Launch) (D : va_G) (ca : Nat → ClassId) (ad : Nat → Nat) (mem : Mm) (a1 : Int32) (a2 : Int32) (a3 : Int32) (a4 : Int32)  {r : Int32} (h : fX9_roomIn mem a1 a2 a3 a4 = some r) : CtI l yX9_roomIn cX9_roomIn 9 (some .int) (rmx 1 21) D ca ad layM mem [.ref (ad 0), .int a1, .int a2, .int a3, .int a4] mem r := by
  refine CtI.of (by decide) (Nat.le_of_ble_eq_true rfl) ?_
  intro p e s m args below meth c H locs ls X M w hl
  replace X : CallFix p m c cX9_roomIn 9 s args TT RX9 := X
  replace hl : lv_has ls 9 [(0, .ref (ad 0)), (1, .int a1), (2, .int a2), (3, .int a3), (4, .int a4)] := hl
  unfold fX9_roomIn at h
  refine lv_iconst (v := (-1 : Int32)) X.1 X.2.1 dX9_roomIn_0 (by decide) ?_
  refine lv_istore (lv' := [(5, .int (-1 : Int32)), (0, .ref (ad 0)), (1, .int a1), (2, .int a2), (3, .int a3), (4, .int a4)]) X.1 X.2.1 dX9_roomIn_1 hl (by decide) rfl (fun ls hl => ?_)
  refine lv_iload_n X.1 X.2.1 dX9_roomIn_3 rfl (lv_at hl 2 rfl) ?_
  refine lv_istore (lv' := [(6, .int a1), (5, .int (-1 : Int32)), (0, .ref (ad 0)), (1, .int a1), (2, .int a2), (3, .int a3), (4, .int a4)]) X.1 X.2.1 dX9_roomIn_4 hl (by decide) rfl (fun ls hl => ?_)
  refine lv_iconst (v := (5 : Int32)) X.1 X.2.1 dX9_roomIn_6 (by decide) ?_
  refine lv_istore (lv' := [(7, .int (5 : Int32)), (6, .int a1), (5, .int (-1 : Int32)), (0, .ref (ad 0)), (1, .int a1), (2, .int a2), (3, .int a3), (4, .int a4)]) X.1 X.2.1 dX9_roomIn_7 hl (by decide) rfl (fun ls hl => ?_)
  exact wX9_roomIn_b9 X M _ _ _ _ _ _ _ _ H locs ls w (lv_sub hl [3, 4, 5, 6, 7, 2, 1, 0] rfl) h
/-! WalkHouseModel.comes(IIIIIII)V (W) -/
theorem hdX9_comes : yX9_comes.cls = RX9 ∧ yX9_comes.cls ≠ "java/lang/invoke/MethodHandle" ∧ yX9_comes.cls ≠ "java/lang/invoke/VarHandle" ∧ (parseMethodDescriptor yX9_comes.desc).map (fun d => d.parameters.length) = some 7 := by decide +kernel
def fX9_comes (mem : Mm) (a1 : Int32) (a2 : Int32) (a3 : Int32) (a4 : Int32) (a5 : Int32) (a6 : Int32) (a7 : Int32) : Option (Mm × Unit) :=
  nz (fX9_wide a3) (lk ((a4 / (fX9_wide a3)) * (fX9_wide a3)) (fun x_2 => bd (fX9_roomIn mem a1 a2 a3 x_2) (fun r3 => gd r3 345 (wk mem 1 r3.toNatClampNeg a2 (fun m5 => gd (r3 + (1 : Int32)) 345 (wk m5 1 (r3 + (1 : Int32)).toNatClampNeg a3 (fun m7 => gd (r3 + (2 : Int32)) 345 (wk m7 1 (r3 + (2 : Int32)).toNatClampNeg x_2 (fun m9 => gd (r3 + (3 : Int32)) 345 (wk m9 1 (r3 + (3 : Int32)).toNatClampNeg a5 (fun m11 => gd (r3 + (4 : Int32)) 345 (wk m11 1 (r3 + (4 : Int32)).toNatClampNeg a6 (fun m13 => gd (r3 + (5 : Int32)) 345 (wk m13 1 (r3 + (5 : Int32)).toNatClampNeg a7 (fun m15 => bw (fX9_isUsed m15 r3) (fun m17 r16 => some (m17, ())))))))))))))))))
set_option maxRecDepth 100000 in
set_option maxHeartbeats 4000000 in
theorem kX9_comes (l : Launch) (D : va_G) (ca : Nat → ClassId) (ad : Nat → Nat) (mem : Mm) (a1 : Int32) (a2 : Int32) (a3 : Int32) (a4 : Int32) (a5 : Int32) (a6 : Int32) (a7 : Int32)  {mem' : Mm} {r : Unit} (h : fX9_comes mem a1 a2 a3 a4 a5 a6 a7 = some (mem', r)) : CtV l yX9_comes cX9_comes 10 none (rmx 2 49) D ca ad layM mem [.ref (ad 0), .int a1, .int a2, .int a3, .int a4, .int a5, .int a6, .int a7] mem' := by
  refine CtV.of (by decide) (Nat.le_of_ble_eq_true rfl) ?_
  intro p e s m args below meth c H locs ls X M w hl
  replace X : CallFix p m c cX9_comes 10 s args TT RX9 := X
  replace hl : lv_has ls 10 [(0, .ref (ad 0)), (1, .int a1), (2, .int a2), (3, .int a3), (4, .int a4), (5, .int a5), (6, .int a6), (7, .int a7)] := hl
  unfold fX9_comes at h
  refine lv_iload X.1 X.2.1 dX9_comes_0 (lv_at hl 4 rfl) ?_
  refine lv_iload_n X.1 X.2.1 dX9_comes_2 rfl (lv_at hl 3 rfl) ?_
  refine r_cSi (As := [.int a3]) (rest := [.int a4]) X w (kX9_wide  l D ca ad mem a3  rfl) (gTS tw_1066 tw_1067 tw_75 tw_1068) hdX9_wide (by decide) rfl hl.1 rfl (Nat.le_of_ble_eq_true rfl) dX9_comes_3 ⟨Nat.zero_le _, Nat.zero_le _⟩ (fun H locs w => ?_)
  obtain ⟨hz1, h⟩ := nz_some h
  refine lv_idiv X.1 X.2.1 dX9_comes_6 hz1 ?_
  refine lv_iload_n X.1 X.2.1 dX9_comes_7 rfl (lv_at hl 3 rfl) ?_
  refine r_cSi (As := [.int a3]) (rest := [.int (a4 / (fX9_wide a3))]) X w (kX9_wide  l D ca ad mem a3  rfl) (gTS tw_1066 tw_1067 tw_75 tw_1068) hdX9_wide (by decide) rfl hl.1 rfl (Nat.le_of_ble_eq_true rfl) dX9_comes_8 ⟨Nat.zero_le _, Nat.zero_le _⟩ (fun H locs w => ?_)
  refine lv_imul X.1 X.2.1 dX9_comes_11 ?_
  obtain ⟨x_2, ex_2, h⟩ := lk_some h
  refine lv_name ex_2 ?_
  refine lv_istore (lv' := [(8, .int x_2), (0, .ref (ad 0)), (1, .int a1), (2, .int a2), (3, .int a3), (4, .int a4), (5, .int a5), (6, .int a6), (7, .int a7)]) X.1 X.2.1 dX9_comes_12 hl (by decide) rfl (fun ls hl => ?_)
  refine lv_aload_n X.1 X.2.1 dX9_comes_14 rfl (lv_at hl 1 rfl) ?_
  refine lv_iload_n X.1 X.2.1 dX9_comes_15 rfl (lv_at hl 2 rfl) ?_
  refine lv_iload_n X.1 X.2.1 dX9_comes_16 rfl (lv_at hl 3 rfl) ?_
  refine lv_iload_n X.1 X.2.1 dX9_comes_17 rfl (lv_at hl 4 rfl) ?_
  refine lv_iload X.1 X.2.1 dX9_comes_18 (lv_at hl 0 rfl) ?_
  obtain ⟨r3, hr3, h⟩ := bd_some h
  refine r_cVi (As := [.int a1, .int a2, .int a3, .int x_2]) (rest := []) X w lyM_0 rfl (kX9_roomIn  l D ca ad mem a1 a2 a3 x_2  hr3) (gTV tw_1094 tw_1096 tw_44 tw_75 tw_1097) hdX9_roomIn (by decide) rfl hl.1 rfl (Nat.le_of_ble_eq_true rfl) dX9_comes_20 ⟨Nat.zero_le _, Nat.zero_le _⟩ (fun H locs w => ?_)
  refine lv_istore (lv' := [(9, .int r3), (8, .int x_2), (0, .ref (ad 0)), (1, .int a1), (2, .int a2), (3, .int a3), (4, .int a4), (5, .int a5), (6, .int a6), (7, .int a7)]) X.1 X.2.1 dX9_comes_23 hl (by decide) rfl (fun ls hl => ?_)
  refine lv_aload_n X.1 X.2.1 dX9_comes_25 rfl (lv_at hl 2 rfl) ?_
  refine r_getr (b2 := 1) X w lyM_0 rfl inT9 1 rfl rfl (by decide) rfl tw_903 dX9_comes_26 ?_
  refine lv_iload X.1 X.2.1 dX9_comes_29 (lv_at hl 0 rfl) ?_
  refine lv_iload_n X.1 X.2.1 dX9_comes_31 rfl (lv_at hl 4 rfl) ?_
  obtain ⟨hi4, h⟩ := gd_some h
  refine r_iast X w lyM_1 hi4 dX9_comes_32 (fun H locs w => ?_)
  obtain ⟨m5, em5, h⟩ := wk_some h
  rw [em5] at w
  refine lv_aload_n X.1 X.2.1 dX9_comes_33 rfl (lv_at hl 2 rfl) ?_
  refine r_getr (b2 := 1) X w lyM_0 rfl inT9 1 rfl rfl (by decide) rfl tw_903 dX9_comes_34 ?_
  refine lv_iload X.1 X.2.1 dX9_comes_37 (lv_at hl 0 rfl) ?_
  refine lv_iconst (v := (1 : Int32)) X.1 X.2.1 dX9_comes_39 (by decide) ?_
  refine lv_iadd X.1 X.2.1 dX9_comes_40 ?_
  refine lv_iload_n X.1 X.2.1 dX9_comes_41 rfl (lv_at hl 5 rfl) ?_
  obtain ⟨hi6, h⟩ := gd_some h
  refine r_iast X w lyM_1 hi6 dX9_comes_42 (fun H locs w => ?_)
  obtain ⟨m7, em7, h⟩ := wk_some h
  rw [em7] at w
  refine lv_aload_n X.1 X.2.1 dX9_comes_43 rfl (lv_at hl 2 rfl) ?_
  refine r_getr (b2 := 1) X w lyM_0 rfl inT9 1 rfl rfl (by decide) rfl tw_903 dX9_comes_44 ?_
  refine lv_iload X.1 X.2.1 dX9_comes_47 (lv_at hl 0 rfl) ?_
  refine lv_iconst (v := (2 : Int32)) X.1 X.2.1 dX9_comes_49 (by decide) ?_
  refine lv_iadd X.1 X.2.1 dX9_comes_50 ?_
  refine lv_iload X.1 X.2.1 dX9_comes_51 (lv_at hl 1 rfl) ?_
  obtain ⟨hi8, h⟩ := gd_some h
  refine r_iast X w lyM_1 hi8 dX9_comes_53 (fun H locs w => ?_)
  obtain ⟨m9, em9, h⟩ := wk_some h
  rw [em9] at w
  refine lv_aload_n X.1 X.2.1 dX9_comes_54 rfl (lv_at hl 2 rfl) ?_
  refine r_getr (b2 := 1) X w lyM_0 rfl inT9 1 rfl rfl (by decide) rfl tw_903 dX9_comes_55 ?_
  refine lv_iload X.1 X.2.1 dX9_comes_58 (lv_at hl 0 rfl) ?_
  refine lv_iconst (v := (3 : Int32)) X.1 X.2.1 dX9_comes_60 (by decide) ?_
  refine lv_iadd X.1 X.2.1 dX9_comes_61 ?_
  refine lv_iload X.1 X.2.1 dX9_comes_62 (lv_at hl 7 rfl) ?_
  obtain ⟨hi10, h⟩ := gd_some h
  refine r_iast X w lyM_1 hi10 dX9_comes_64 (fun H locs w => ?_)
  obtain ⟨m11, em11, h⟩ := wk_some h
  rw [em11] at w
  refine lv_aload_n X.1 X.2.1 dX9_comes_65 rfl (lv_at hl 2 rfl) ?_
  refine r_getr (b2 := 1) X w lyM_0 rfl inT9 1 rfl rfl (by decide) rfl tw_903 dX9_comes_66 ?_
  refine lv_iload X.1 X.2.1 dX9_comes_69 (lv_at hl 0 rfl) ?_
  refine lv_iconst (v := (4 : Int32)) X.1 X.2.1 dX9_comes_71 (by decide) ?_
  refine lv_iadd X.1 X.2.1 dX9_comes_72 ?_
  refine lv_iload X.1 X.2.1 dX9_comes_73 (lv_at hl 8 rfl) ?_
  obtain ⟨hi12, h⟩ := gd_some h
  refine r_iast X w lyM_1 hi12 dX9_comes_75 (fun H locs w => ?_)
  obtain ⟨m13, em13, h⟩ := wk_some h
  rw [em13] at w
  refine lv_aload_n X.1 X.2.1 dX9_comes_76 rfl (lv_at hl 2 rfl) ?_
  refine r_getr (b2 := 1) X w lyM_0 rfl inT9 1 rfl rfl (by decide) rfl tw_903 dX9_comes_77 ?_
  refine lv_iload X.1 X.2.1 dX9_comes_80 (lv_at hl 0 rfl) ?_
  refine lv_iconst (v := (5 : Int32)) X.1 X.2.1 dX9_comes_82 (by decide) ?_
  refine lv_iadd X.1 X.2.1 dX9_comes_83 ?_
  refine lv_iload X.1 X.2.1 dX9_comes_84 (lv_at hl 9 rfl) ?_
  obtain ⟨hi14, h⟩ := gd_some h
  refine r_iast X w lyM_1 hi14 dX9_comes_86 (fun H locs w => ?_)
  obtain ⟨m15, em15, h⟩ := wk_some h
  rw [em15] at w
  refine lv_aload_n X.1 X.2.1 dX9_comes_87 rfl (lv_at hl 2 rfl) ?_
  refine lv_iload X.1 X.2.1 dX9_comes_88 (lv_at hl 0 rfl) ?_
  obtain ⟨m17, r16, hr16, h⟩ := bw_some h
  refine r_cVv (As := [.int r3]) (rest := []) X w lyM_0 rfl (kX9_isUsed  l D ca ad m15 r3  hr16) (gTV tw_1069 tw_1071 tw_40 tw_75 tw_1072) hdX9_isUsed (by decide) rfl hl.1 rfl (Nat.le_of_ble_eq_true rfl) dX9_comes_90 ⟨Nat.zero_le _, Nat.zero_le _⟩ (fun H locs w => ?_)
  obtain ⟨rfl, -⟩ := Prod.mk.inj (Option.some.inj h)
  exact r_vret X M w dX9_comes_93
/-! WalkHouseModel.begins(II)V (W) -/
theorem hdX9_begins : yX9_begins.cls = RX9 ∧ yX9_begins.cls ≠ "java/lang/invoke/MethodHandle" ∧ yX9_begins.cls ≠ "java/lang/invoke/VarHandle" ∧ (parseMethodDescriptor yX9_begins.desc).map (fun d => d.parameters.length) = some 2 := by decide +kernel
def fX9_begins_b73 (k5 : Mm → Int32 → Int32 → Int32 → Int32 → Option (Mm × Unit)) (mem : Mm) (x1 : Int32) (x2 : Int32) (x3 : Int32) (x4 : Int32) (x5 : Int32) (s0 : Int32) : Option (Mm × Unit) :=
  if s0 = 0 then k5 mem x1 x2 x3 (x4 + (1 : Int32)) else k5 mem x1 x2 x5 (x4 + (1 : Int32))
set_option maxRecDepth 100000 in
set_option maxHeartbeats 4000000 in
theorem wX9_begins_b73 {p : Program} {l : Launch} {e : Env} {s : State} {m : MethodId} {args : Array Value} {below : List Frame} {meth : Method} {c : Code} {D : va_G} {ca : Nat → ClassId} {ad : Nat → Nat} {H : Heap} {locs : List Loc} {ls : Array Slot} {mem : Mm} {x1 : Int32} {x2 : Int32} {x3 : Int32} {x4 : Int32} {x5 : Int32} {s0 : Int32} {k5 : Mm → Int32 → Int32 → Int32 → Int32 → Option (Mm × Unit)} {mem' : Mm} {r : Unit} (X : CallFix p m c cX9_begins 7 s args TT RX9) (M : Mt meth none) (hk5 : ∀ (mem : Mm) (x1 : Int32) (x2 : Int32) (x3 : Int32) (x4 : Int32) (H : Heap) (locs : List Loc) (ls : Array Slot) , Wd D ca ad layM (AA ad layM.length) s.heap s mem H locs → lv_has ls 7 [(0, .ref (ad 0)), (1, .int x1), (2, .int x2), (3, .int x3), (4, .int x4)] → k5 mem x1 x2 x3 x4 = some (mem', r) → W p l e (rmx 2 43) s m args below meth c H locs 0 0 (EndV D ca ad layM mem' below args s) (F0 m 5 ls []))  (w : Wd D ca ad layM (AA ad layM.length) s.heap s mem H locs) (hl : lv_has ls 7 [(0, .ref (ad 0)), (1, .int x1), (2, .int x2), (3, .int x3), (4, .int x4), (5, .int x5)]) (h : fX9_begins_b73 k5 mem x1 x2 x3 x4 x5 s0 = some (mem', r)) : W p l e (rmx 2 43) s m args below meth c H locs 0 0 (EndV D ca ad layM mem' below args s) (F0 m 73 ls [.int s0]) := by
  unfold fX9_begins_b73 at h
  refine lv_istore (lv' := [(6, .int s0), (0, .ref (ad 0)), (1, .int x1), (2, .int x2), (3, .int x3), (4, .int x4), (5, .int x5)]) X.1 X.2.1 dX9_begins_73 hl (by decide) rfl (fun ls hl => ?_)
  refine lv_iload X.1 X.2.1 dX9_begins_75 (lv_at hl 0 rfl) ?_
  refine lv_if_eq (tgt := 85) X.1 X.2.1 dX9_begins_77 (by decide) (fun c1 => ?_) (fun c1 => ?_)
  · rw [if_pos c1] at h
    refine lv_iload_n X.1 X.2.1 dX9_begins_85 rfl (lv_at hl 4 rfl) ?_
    refine lv_istore_n (lv' := [(3, .int x3), (6, .int s0), (0, .ref (ad 0)), (1, .int x1), (2, .int x2), (4, .int x4), (5, .int x5)]) X.1 X.2.1 dX9_begins_86 rfl hl (by decide) rfl (fun ls hl => ?_)
    refine lv_iinc (v := (x4 + (1 : Int32))) (lv' := [(4, .int (x4 + (1 : Int32))), (3, .int x3), (6, .int s0), (0, .ref (ad 0)), (1, .int x1), (2, .int x2), (5, .int x5)]) X.1 X.2.1 dX9_begins_87 hl (k := 5) rfl rfl (by decide) rfl (fun ls hl => ?_)
    refine lv_goto (tgt := 5) X.1 X.2.1 dX9_begins_90 (by decide) ?_
    exact hk5 _ _ _ _ _ H locs ls w (lv_sub hl [3, 4, 5, 1, 0] rfl) h
  · rw [if_neg c1] at h
    refine lv_iload X.1 X.2.1 dX9_begins_80 (lv_at hl 6 rfl) ?_
    refine lv_goto (tgt := 86) X.1 X.2.1 dX9_begins_82 (by decide) ?_
    refine lv_istore_n (lv' := [(3, .int x5), (6, .int s0), (0, .ref (ad 0)), (1, .int x1), (2, .int x2), (4, .int x4), (5, .int x5)]) X.1 X.2.1 dX9_begins_86 rfl hl (by decide) rfl (fun ls hl => ?_)
    refine lv_iinc (v := (x4 + (1 : Int32))) (lv' := [(4, .int (x4 + (1 : Int32))), (3, .int x5), (6, .int s0), (0, .ref (ad 0)), (1, .int x1), (2, .int x2), (5, .int x5)]) X.1 X.2.1 dX9_begins_87 hl (k := 5) rfl rfl (by decide) rfl (fun ls hl => ?_)
    refine lv_goto (tgt := 5) X.1 X.2.1 dX9_begins_90 (by decide) ?_
    exact hk5 _ _ _ _ _ H locs ls w (lv_sub hl [3, 4, 5, 1, 0] rfl) h
def fX9_begins_b5_s  (k5 : Mm → Int32 → Int32 → Int32 → Int32 → Option (Mm × Unit)) (mem : Mm) (x1 : Int32) (x2 : Int32) (x3 : Int32) (x4 : Int32) : Option (Mm × Unit) :=
  if (6 : Int32) ≤ x4 then wk mem 0 16 (0 : Int32) (fun m2 => if x3 < 0 then wk m2 0 11 (2 : Int32) (fun m4 => wk m4 0 13 (7 : Int32) (fun m5 => gd (344 : Int32) 345 (gd ((326 : Int32) + (m5 1 (344 : Int32).toNatClampNeg)) 345 (wk m5 0 12 (m5 1 ((326 : Int32) + (m5 1 (344 : Int32).toNatClampNeg)).toNatClampNeg) (fun m8 => if 0 ≤ (m8 0 12) then wk m8 0 16 (0 : Int32) (fun m10 => some (m10, ())) else wk m8 0 16 (1 : Int32) (fun m11 => some (m11, ()))))))) else bw (fX9_isUsed m2 x3) (fun m13 r12 => gd (324 : Int32) 345 (gd (324 : Int32) 345 (wk m13 1 (324 : Int32).toNatClampNeg ((m13 1 (324 : Int32).toNatClampNeg) + (1 : Int32)) (fun m16 => gd (x3 + (1 : Int32)) 345 (wk m16 0 11 ((m16 1 (x3 + (1 : Int32)).toNatClampNeg) - (1 : Int32)) (fun m18 => gd (x3 + (3 : Int32)) 345 (wk m18 0 12 (m18 1 (x3 + (3 : Int32)).toNatClampNeg) (fun m20 => gd (x3 + (4 : Int32)) 345 (wk m20 0 13 (m20 1 (x3 + (4 : Int32)).toNatClampNeg) (fun m22 => some (m22, ())))))))))))) else lk ((234 : Int32) + ((7 : Int32) * x4)) (fun x_23 => gd x_23 345 (if (mem 1 x_23.toNatClampNeg) = x1 then bd (fX9_isUnder mem x_23 x2) (fun r26 => if r26 = 0 then fX9_begins_b73 k5 mem x1 x2 x3 x4 x_23 (0 : Int32) else if x3 < 0 then fX9_begins_b73 k5 mem x1 x2 x3 x4 x_23 (1 : Int32) else gd (x_23 + (1 : Int32)) 345 (gd (x3 + (1 : Int32)) 345 (if (mem 1 (x3 + (1 : Int32)).toNatClampNeg) ≤ (mem 1 (x_23 + (1 : Int32)).toNatClampNeg) then fX9_begins_b73 k5 mem x1 x2 x3 x4 x_23 (0 : Int32) else fX9_begins_b73 k5 mem x1 x2 x3 x4 x_23 (1 : Int32)))) else fX9_begins_b73 k5 mem x1 x2 x3 x4 x_23 (0 : Int32)))
def fX9_begins_b5  : Nat → Mm → Int32 → Int32 → Int32 → Int32 → Option (Mm × Unit)
  | 0 => fun _ _ _ _ _ => none
  | n + 1 => fX9_begins_b5_s  (fX9_begins_b5  n)
set_option maxRecDepth 100000 in
set_option maxHeartbeats 4000000 in
theorem wX9_begins_b5_s {p : Program} {l : Launch} {e : Env} {s : State} {m : MethodId} {args : Array Value} {below : List Frame} {meth : Method} {c : Code} {D : va_G} {ca : Nat → ClassId} {ad : Nat → Nat} {H : Heap} {locs : List Loc} {ls : Array Slot} {mem : Mm} {x1 : Int32} {x2 : Int32} {x3 : Int32} {x4 : Int32}  {k5 : Mm → Int32 → Int32 → Int32 → Int32 → Option (Mm × Unit)} {mem' : Mm} {r : Unit} (X : CallFix p m c cX9_begins 7 s args TT RX9) (M : Mt meth none)  (hk5 : ∀ (mem : Mm) (x1 : Int32) (x2 : Int32) (x3 : Int32) (x4 : Int32) (H : Heap) (locs : List Loc) (ls : Array Slot) , Wd D ca ad layM (AA ad layM.length) s.heap s mem H locs → lv_has ls 7 [(0, .ref (ad 0)), (1, .int x1), (2, .int x2), (3, .int x3), (4, .int x4)] → k5 mem x1 x2 x3 x4 = some (mem', r) → W p l e (rmx 2 43) s m args below meth c H locs 0 0 (EndV D ca ad layM mem' below args s) (F0 m 5 ls []))  (w : Wd D ca ad layM (AA ad layM.length) s.heap s mem H locs) (hl : lv_has ls 7 [(0, .ref (ad 0)), (1, .int x1), (2, .int x2), (3, .int x3), (4, .int x4)]) (h : fX9_begins_b5_s  k5 mem x1 x2 x3 x4 = some (mem', r)) : W p l e (rmx 2 43) s m args below meth c H locs 0 0 (EndV D ca ad layM mem' below args s) (F0 m 5 ls []) := by
  unfold fX9_begins_b5_s at h
  refine lv_iload X.1 X.2.1 dX9_begins_5 (lv_at hl 4 rfl) ?_
  refine lv_bipush (v := (6 : Int32)) X.1 X.2.1 dX9_begins_7 (by decide) ?_
  refine lv_icmp_ge (tgt := 93) X.1 X.2.1 dX9_begins_9 (by decide) (fun c1 => ?_) (fun c1 => ?_)
  · rw [if_pos c1] at h
    refine lv_aload_n X.1 X.2.1 dX9_begins_93 rfl (lv_at hl 0 rfl) ?_
    refine lv_iconst (v := (0 : Int32)) X.1 X.2.1 dX9_begins_94 (by decide) ?_
    refine r_put X w lyM_0 rfl inT9 tyX9 tyX9_ok nmX9 16 rfl (by decide) rfl rfl tw_918 rfl rfl dX9_begins_95 (fun H locs w => ?_)
    obtain ⟨m2, em2, h⟩ := wk_some h
    rw [em2] at w
    refine lv_iload_n X.1 X.2.1 dX9_begins_98 rfl (lv_at hl 3 rfl) ?_
    refine lv_if_lt (tgt := 158) X.1 X.2.1 dX9_begins_99 (by decide) (fun c3 => ?_) (fun c3 => ?_)
    · rw [if_pos c3] at h
      refine lv_aload_n X.1 X.2.1 dX9_begins_158 rfl (lv_at hl 0 rfl) ?_
      refine lv_iconst (v := (2 : Int32)) X.1 X.2.1 dX9_begins_159 (by decide) ?_
      refine r_put X w lyM_0 rfl inT9 tyX9 tyX9_ok nmX9 11 rfl (by decide) rfl rfl tw_913 rfl rfl dX9_begins_160 (fun H locs w => ?_)
      obtain ⟨m4, em4, h⟩ := wk_some h
      rw [em4] at w
      refine lv_aload_n X.1 X.2.1 dX9_begins_163 rfl (lv_at hl 0 rfl) ?_
      refine lv_bipush (v := (7 : Int32)) X.1 X.2.1 dX9_begins_164 (by decide) ?_
      refine r_put X w lyM_0 rfl inT9 tyX9 tyX9_ok nmX9 13 rfl (by decide) rfl rfl tw_915 rfl rfl dX9_begins_166 (fun H locs w => ?_)
      obtain ⟨m5, em5, h⟩ := wk_some h
      rw [em5] at w
      refine lv_aload_n X.1 X.2.1 dX9_begins_169 rfl (lv_at hl 0 rfl) ?_
      refine lv_aload_n X.1 X.2.1 dX9_begins_170 rfl (lv_at hl 0 rfl) ?_
      refine r_getr (b2 := 1) X w lyM_0 rfl inT9 1 rfl rfl (by decide) rfl tw_903 dX9_begins_171 ?_
      refine lv_sipush (v := (326 : Int32)) X.1 X.2.1 dX9_begins_174 (by decide) ?_
      refine lv_aload_n X.1 X.2.1 dX9_begins_177 rfl (lv_at hl 0 rfl) ?_
      refine r_getr (b2 := 1) X w lyM_0 rfl inT9 1 rfl rfl (by decide) rfl tw_903 dX9_begins_178 ?_
      refine lv_sipush (v := (344 : Int32)) X.1 X.2.1 dX9_begins_181 (by decide) ?_
      obtain ⟨hi6, h⟩ := gd_some h
      refine r_iald X w lyM_1 hi6 dX9_begins_184 ?_
      refine lv_iadd X.1 X.2.1 dX9_begins_185 ?_
      obtain ⟨hi7, h⟩ := gd_some h
      refine r_iald X w lyM_1 hi7 dX9_begins_186 ?_
      refine r_put X w lyM_0 rfl inT9 tyX9 tyX9_ok nmX9 12 rfl (by decide) rfl rfl tw_914 rfl rfl dX9_begins_187 (fun H locs w => ?_)
      obtain ⟨m8, em8, h⟩ := wk_some h
      rw [em8] at w
      refine lv_aload_n X.1 X.2.1 dX9_begins_190 rfl (lv_at hl 0 rfl) ?_
      refine lv_aload_n X.1 X.2.1 dX9_begins_191 rfl (lv_at hl 0 rfl) ?_
      refine r_get X w lyM_0 rfl inT9 12 rfl (by decide) rfl tw_914 dX9_begins_192 ?_
      refine lv_if_ge (tgt := 202) X.1 X.2.1 dX9_begins_195 (by decide) (fun c9 => ?_) (fun c9 => ?_)
      · rw [if_pos c9] at h
        refine lv_iconst (v := (0 : Int32)) X.1 X.2.1 dX9_begins_202 (by decide) ?_
        refine r_put X w lyM_0 rfl inT9 tyX9 tyX9_ok nmX9 16 rfl (by decide) rfl rfl tw_918 rfl rfl dX9_begins_203 (fun H locs w => ?_)
        obtain ⟨m10, em10, h⟩ := wk_some h
        rw [em10] at w
        obtain ⟨rfl, -⟩ := Prod.mk.inj (Option.some.inj h)
        exact r_vret X M w dX9_begins_206
      · rw [if_neg c9] at h
        refine lv_iconst (v := (1 : Int32)) X.1 X.2.1 dX9_begins_198 (by decide) ?_
        refine lv_goto (tgt := 203) X.1 X.2.1 dX9_begins_199 (by decide) ?_
        refine r_put X w lyM_0 rfl inT9 tyX9 tyX9_ok nmX9 16 rfl (by decide) rfl rfl tw_918 rfl rfl dX9_begins_203 (fun H locs w => ?_)
        obtain ⟨m11, em11, h⟩ := wk_some h
        rw [em11] at w
        obtain ⟨rfl, -⟩ := Prod.mk.inj (Option.some.inj h)
        exact r_vret X M w dX9_begins_206
    · rw [if_neg c3] at h
      refine lv_aload_n X.1 X.2.1 dX9_begins_102 rfl (lv_at hl 0 rfl) ?_
      refine lv_iload_n X.1 X.2.1 dX9_begins_103 rfl (lv_at hl 3 rfl) ?_
      obtain ⟨m13, r12, hr12, h⟩ := bw_some h
      refine r_cVv (As := [.int x3]) (rest := []) X w lyM_0 rfl (kX9_isUsed  l D ca ad m2 x3  hr12) (gTV tw_1069 tw_1071 tw_40 tw_75 tw_1072) hdX9_isUsed (by decide) rfl hl.1 rfl (Nat.le_of_ble_eq_true rfl) dX9_begins_104 ⟨Nat.zero_le _, Nat.zero_le _⟩ (fun H locs w => ?_)
      refine lv_aload_n X.1 X.2.1 dX9_begins_107 rfl (lv_at hl 0 rfl) ?_
      refine r_getr (b2 := 1) X w lyM_0 rfl inT9 1 rfl rfl (by decide) rfl tw_903 dX9_begins_108 ?_
      refine lv_sipush (v := (324 : Int32)) X.1 X.2.1 dX9_begins_111 (by decide) ?_
      refine lv_dup2_11 X.1 X.2.1 dX9_begins_114 rfl rfl ?_
      obtain ⟨hi14, h⟩ := gd_some h
      refine r_iald X w lyM_1 hi14 dX9_begins_115 ?_
      refine lv_iconst (v := (1 : Int32)) X.1 X.2.1 dX9_begins_116 (by decide) ?_
      refine lv_iadd X.1 X.2.1 dX9_begins_117 ?_
      obtain ⟨hi15, h⟩ := gd_some h
      refine r_iast X w lyM_1 hi15 dX9_begins_118 (fun H locs w => ?_)
      obtain ⟨m16, em16, h⟩ := wk_some h
      rw [em16] at w
      refine lv_aload_n X.1 X.2.1 dX9_begins_119 rfl (lv_at hl 0 rfl) ?_
      refine lv_aload_n X.1 X.2.1 dX9_begins_120 rfl (lv_at hl 0 rfl) ?_
      refine r_getr (b2 := 1) X w lyM_0 rfl inT9 1 rfl rfl (by decide) rfl tw_903 dX9_begins_121 ?_
      refine lv_iload_n X.1 X.2.1 dX9_begins_124 rfl (lv_at hl 3 rfl) ?_
      refine lv_iconst (v := (1 : Int32)) X.1 X.2.1 dX9_begins_125 (by decide) ?_
      refine lv_iadd X.1 X.2.1 dX9_begins_126 ?_
      obtain ⟨hi17, h⟩ := gd_some h
      refine r_iald X w lyM_1 hi17 dX9_begins_127 ?_
      refine lv_iconst (v := (1 : Int32)) X.1 X.2.1 dX9_begins_128 (by decide) ?_
      refine lv_isub X.1 X.2.1 dX9_begins_129 ?_
      refine r_put X w lyM_0 rfl inT9 tyX9 tyX9_ok nmX9 11 rfl (by decide) rfl rfl tw_913 rfl rfl dX9_begins_130 (fun H locs w => ?_)
      obtain ⟨m18, em18, h⟩ := wk_some h
      rw [em18] at w
      refine lv_aload_n X.1 X.2.1 dX9_begins_133 rfl (lv_at hl 0 rfl) ?_
      refine lv_aload_n X.1 X.2.1 dX9_begins_134 rfl (lv_at hl 0 rfl) ?_
      refine r_getr (b2 := 1) X w lyM_0 rfl inT9 1 rfl rfl (by decide) rfl tw_903 dX9_begins_135 ?_
      refine lv_iload_n X.1 X.2.1 dX9_begins_138 rfl (lv_at hl 3 rfl) ?_
      refine lv_iconst (v := (3 : Int32)) X.1 X.2.1 dX9_begins_139 (by decide) ?_
      refine lv_iadd X.1 X.2.1 dX9_begins_140 ?_
      obtain ⟨hi19, h⟩ := gd_some h
      refine r_iald X w lyM_1 hi19 dX9_begins_141 ?_
      refine r_put X w lyM_0 rfl inT9 tyX9 tyX9_ok nmX9 12 rfl (by decide) rfl rfl tw_914 rfl rfl dX9_begins_142 (fun H locs w => ?_)
      obtain ⟨m20, em20, h⟩ := wk_some h
      rw [em20] at w
      refine lv_aload_n X.1 X.2.1 dX9_begins_145 rfl (lv_at hl 0 rfl) ?_
      refine lv_aload_n X.1 X.2.1 dX9_begins_146 rfl (lv_at hl 0 rfl) ?_
      refine r_getr (b2 := 1) X w lyM_0 rfl inT9 1 rfl rfl (by decide) rfl tw_903 dX9_begins_147 ?_
      refine lv_iload_n X.1 X.2.1 dX9_begins_150 rfl (lv_at hl 3 rfl) ?_
      refine lv_iconst (v := (4 : Int32)) X.1 X.2.1 dX9_begins_151 (by decide) ?_
      refine lv_iadd X.1 X.2.1 dX9_begins_152 ?_
      obtain ⟨hi21, h⟩ := gd_some h
      refine r_iald X w lyM_1 hi21 dX9_begins_153 ?_
      refine r_put X w lyM_0 rfl inT9 tyX9 tyX9_ok nmX9 13 rfl (by decide) rfl rfl tw_915 rfl rfl dX9_begins_154 (fun H locs w => ?_)
      obtain ⟨m22, em22, h⟩ := wk_some h
      rw [em22] at w
      obtain ⟨rfl, -⟩ := Prod.mk.inj (Option.some.inj h)
      exact r_vret X M w dX9_begins_157
  · rw [if_neg c1] at h
    refine lv_sipush (v := (234 : Int32)) X.1 X.2.1 dX9_begins_12 (by decide) ?_
    refine lv_bipush (v := (7 : Int32)) X.1 X.2.1 dX9_begins_15 (by decide) ?_
    refine lv_iload X.1 X.2.1 dX9_begins_17 (lv_at hl 4 rfl) ?_
    refine lv_imul X.1 X.2.1 dX9_begins_19 ?_
    refine lv_iadd X.1 X.2.1 dX9_begins_20 ?_
    obtain ⟨x_23, ex_23, h⟩ := lk_some h
    refine lv_name ex_23 ?_
    refine lv_istore (lv' := [(5, .int x_23), (0, .ref (ad 0)), (1, .int x1), (2, .int x2), (3, .int x3), (4, .int x4)]) X.1 X.2.1 dX9_begins_21 hl (by decide) rfl (fun ls hl => ?_)
    refine lv_aload_n X.1 X.2.1 dX9_begins_23 rfl (lv_at hl 1 rfl) ?_
    refine r_getr (b2 := 1) X w lyM_0 rfl inT9 1 rfl rfl (by decide) rfl tw_903 dX9_begins_24 ?_
    refine lv_iload X.1 X.2.1 dX9_begins_27 (lv_at hl 0 rfl) ?_
    obtain ⟨hi24, h⟩ := gd_some h
    refine r_iald X w lyM_1 hi24 dX9_begins_29 ?_
    refine lv_iload_n X.1 X.2.1 dX9_begins_30 rfl (lv_at hl 2 rfl) ?_
    refine lv_icmp_ne (tgt := 72) X.1 X.2.1 dX9_begins_31 (by decide) (fun c25 => ?_) (fun c25 => ?_)
    · rw [if_neg c25] at h
      refine lv_iconst (v := (0 : Int32)) X.1 X.2.1 dX9_begins_72 (by decide) ?_
      exact wX9_begins_b73 X M hk5 w (lv_sub hl [1, 2, 3, 4, 5, 0] rfl) h
    · rw [if_pos c25] at h
      refine lv_aload_n X.1 X.2.1 dX9_begins_34 rfl (lv_at hl 1 rfl) ?_
      refine lv_iload X.1 X.2.1 dX9_begins_35 (lv_at hl 0 rfl) ?_
      refine lv_iload_n X.1 X.2.1 dX9_begins_37 rfl (lv_at hl 3 rfl) ?_
      obtain ⟨r26, hr26, h⟩ := bd_some h
      refine r_cVi (As := [.int x_23, .int x2]) (rest := []) X w lyM_0 rfl (kX9_isUnder  l D ca ad mem x_23 x2  hr26) (gTV tw_1058 tw_1060 tw_38 tw_75 tw_1061) hdX9_isUnder (by decide) rfl hl.1 rfl (Nat.le_of_ble_eq_true rfl) dX9_begins_38 ⟨Nat.zero_le _, Nat.zero_le _⟩ (fun H locs w => ?_)
      refine lv_if_eq (tgt := 72) X.1 X.2.1 dX9_begins_41 (by decide) (fun c27 => ?_) (fun c27 => ?_)
      · rw [if_pos c27] at h
        refine lv_iconst (v := (0 : Int32)) X.1 X.2.1 dX9_begins_72 (by decide) ?_
        exact wX9_begins_b73 X M hk5 w (lv_sub hl [1, 2, 3, 4, 5, 0] rfl) h
      · rw [if_neg c27] at h
        refine lv_iload_n X.1 X.2.1 dX9_begins_44 rfl (lv_at hl 4 rfl) ?_
        refine lv_if_lt (tgt := 68) X.1 X.2.1 dX9_begins_45 (by decide) (fun c28 => ?_) (fun c28 => ?_)
        · rw [if_pos c28] at h
          refine lv_iconst (v := (1 : Int32)) X.1 X.2.1 dX9_begins_68 (by decide) ?_
          refine lv_goto (tgt := 73) X.1 X.2.1 dX9_begins_69 (by decide) ?_
          exact wX9_begins_b73 X M hk5 w (lv_sub hl [1, 2, 3, 4, 5, 0] rfl) h
        · rw [if_neg c28] at h
          refine lv_aload_n X.1 X.2.1 dX9_begins_48 rfl (lv_at hl 1 rfl) ?_
          refine r_getr (b2 := 1) X w lyM_0 rfl inT9 1 rfl rfl (by decide) rfl tw_903 dX9_begins_49 ?_
          refine lv_iload X.1 X.2.1 dX9_begins_52 (lv_at hl 0 rfl) ?_
          refine lv_iconst (v := (1 : Int32)) X.1 X.2.1 dX9_begins_54 (by decide) ?_
          refine lv_iadd X.1 X.2.1 dX9_begins_55 ?_
          obtain ⟨hi29, h⟩ := gd_some h
          refine r_iald X w lyM_1 hi29 dX9_begins_56 ?_
          refine lv_aload_n X.1 X.2.1 dX9_begins_57 rfl (lv_at hl 1 rfl) ?_
          refine r_getr (b2 := 1) X w lyM_0 rfl inT9 1 rfl rfl (by decide) rfl tw_903 dX9_begins_58 ?_
          refine lv_iload_n X.1 X.2.1 dX9_begins_61 rfl (lv_at hl 4 rfl) ?_
          refine lv_iconst (v := (1 : Int32)) X.1 X.2.1 dX9_begins_62 (by decide) ?_
          refine lv_iadd X.1 X.2.1 dX9_begins_63 ?_
          obtain ⟨hi30, h⟩ := gd_some h
          refine r_iald X w lyM_1 hi30 dX9_begins_64 ?_
          refine lv_icmp_ge (tgt := 72) X.1 X.2.1 dX9_begins_65 (by decide) (fun c31 => ?_) (fun c31 => ?_)
          · rw [if_pos c31] at h
            refine lv_iconst (v := (0 : Int32)) X.1 X.2.1 dX9_begins_72 (by decide) ?_
            exact wX9_begins_b73 X M hk5 w (lv_sub hl [1, 2, 3, 4, 5, 0] rfl) h
          · rw [if_neg c31] at h
            refine lv_iconst (v := (1 : Int32)) X.1 X.2.1 dX9_begins_68 (by decide) ?_
            refine lv_goto (tgt := 73) X.1 X.2.1 dX9_begins_69 (by decide) ?_
            exact wX9_begins_b73 X M hk5 w (lv_sub hl [1, 2, 3, 4, 5, 0] rfl) h
set_option maxRecDepth 100000 in
set_option maxHeartbeats 4000000 in
theorem wX9_begins_b5 {p : Program} {l : Launch} {e : Env} {s : State} {m : MethodId} {args : Array Value} {below : List Frame} {meth : Method} {c : Code} {D : va_G} {ca : Nat → ClassId} {ad : Nat → Nat}  {mem' : Mm} {r : Unit} (X : CallFix p m c cX9_begins 7 s args TT RX9) (M : Mt meth none)  : ∀ (n : Nat) (mem : Mm) (x1 : Int32) (x2 : Int32) (x3 : Int32) (x4 : Int32) (H : Heap) (locs : List Loc) (ls : Array Slot)  (_ : Wd D ca ad layM (AA ad layM.length) s.heap s mem H locs) (_ : lv_has ls 7 [(0, .ref (ad 0)), (1, .int x1), (2, .int x2), (3, .int x3), (4, .int x4)]) (_ : fX9_begins_b5  n mem x1 x2 x3 x4 = some (mem', r)), W p l e (rmx 2 43) s m args below meth c H locs 0 0 (EndV D ca ad layM mem' below args s) (F0 m 5 ls []) := by
  intro n
  induction n with
  | zero => intro mem x1 x2 x3 x4 H locs ls  w hl h; exact (nofun : (none : Option (Mm × Unit)) = _ → _) h
  | succ n ih => intro mem x1 x2 x3 x4 H locs ls  w hl h; exact wX9_begins_b5_s X M  ih  w hl h
def fX9_begins (mem : Mm) (a1 : Int32) (a2 : Int32) : Option (Mm × Unit) :=
  fX9_begins_b5 2000 mem a1 a2 (-1 : Int32) (0 : Int32)
set_option maxRecDepth 100000 in
set_option maxHeartbeats 4000000 in
theorem kX9_begins (l : Launch) (D : va_G) (ca : Nat → ClassId) (ad : Nat → Nat) (mem : Mm) (a1 : Int32) (a2 : Int32)  {mem' : Mm} {r : Unit} (h : fX9_begins mem a1 a2 = some (mem', r)) : CtV l yX9_begins cX9_begins 7 none (rmx 2 43) D ca ad layM mem [.ref (ad 0), .int a1, .int a2] mem' := by
  refine CtV.of (by decide) (Nat.le_of_ble_eq_true rfl) ?_
  intro p e s m args below meth c H locs ls X M w hl
  replace X : CallFix p m c cX9_begins 7 s args TT RX9 := X
  replace hl : lv_has ls 7 [(0, .ref (ad 0)), (1, .int a1), (2, .int a2)] := hl
  unfold fX9_begins at h
  refine lv_iconst (v := (-1 : Int32)) X.1 X.2.1 dX9_begins_0 (by decide) ?_
  refine lv_istore_n (lv' := [(3, .int (-1 : Int32)), (0, .ref (ad 0)), (1, .int a1), (2, .int a2)]) X.1 X.2.1 dX9_begins_1 rfl hl (by decide) rfl (fun ls hl => ?_)
  refine lv_iconst (v := (0 : Int32)) X.1 X.2.1 dX9_begins_2 (by decide) ?_
  refine lv_istore (lv' := [(4, .int (0 : Int32)), (3, .int (-1 : Int32)), (0, .ref (ad 0)), (1, .int a1), (2, .int a2)]) X.1 X.2.1 dX9_begins_3 hl (by decide) rfl (fun ls hl => ?_)
  exact wX9_begins_b5 X M _ _ _ _ _ _ H locs ls w (lv_sub hl [2, 3, 4, 1, 0] rfl) h
/-! WalkHouseModel.reads(IIIZ)Z (W) -/
theorem hdX9_reads : yX9_reads.cls = RX9 ∧ yX9_reads.cls ≠ "java/lang/invoke/MethodHandle" ∧ yX9_reads.cls ≠ "java/lang/invoke/VarHandle" ∧ (parseMethodDescriptor yX9_reads.desc).map (fun d => d.parameters.length) = some 4 := by decide +kernel
def fX9_reads_b60  (mem : Mm) (x7 : Int32) : Option (Mm × Int32) :=
  if x7 = 0 then wk mem 0 16 (2 : Int32) (fun m3 => some (m3, (0 : Int32))) else wk mem 0 16 (3 : Int32) (fun m2 => some (m2, (0 : Int32)))
set_option maxRecDepth 100000 in
set_option maxHeartbeats 4000000 in
theorem wX9_reads_b60 {p : Program} {l : Launch} {e : Env} {s : State} {m : MethodId} {args : Array Value} {below : List Frame} {meth : Method} {c : Code} {D : va_G} {ca : Nat → ClassId} {ad : Nat → Nat} {H : Heap} {locs : List Loc} {ls : Array Slot} {mem : Mm} {x7 : Int32}  {mem' : Mm} {r : Int32} (X : CallFix p m c cX9_reads 9 s args TT RX9) (M : Mt meth (some .boolean))   (w : Wd D ca ad layM (AA ad layM.length) s.heap s mem H locs) (hl : lv_has ls 9 [(0, .ref (ad 0)), (7, .int x7)]) (h : fX9_reads_b60  mem x7 = some (mem', r)) : W p l e (rmx 3 78) s m args below meth c H locs 0 0 (EndI D ca ad layM mem' r below args s) (F0 m 60 ls []) := by
  unfold fX9_reads_b60 at h
  refine lv_aload_n X.1 X.2.1 dX9_reads_60 rfl (lv_at hl 0 rfl) ?_
  refine lv_iload X.1 X.2.1 dX9_reads_61 (lv_at hl 1 rfl) ?_
  refine lv_if_ne (tgt := 70) X.1 X.2.1 dX9_reads_63 (by decide) (fun c1 => ?_) (fun c1 => ?_)
  · rw [if_neg c1] at h
    refine lv_iconst (v := (3 : Int32)) X.1 X.2.1 dX9_reads_70 (by decide) ?_
    refine r_put X w lyM_0 rfl inT9 tyX9 tyX9_ok nmX9 16 rfl (by decide) rfl rfl tw_918 rfl rfl dX9_reads_71 (fun H locs w => ?_)
    obtain ⟨m2, em2, h⟩ := wk_some h
    rw [em2] at w
    refine lv_iconst (v := (0 : Int32)) X.1 X.2.1 dX9_reads_74 (by decide) ?_
    obtain ⟨rfl, rfl⟩ := Prod.mk.inj (Option.some.inj h)
    exact r_zret X M w (by decide) dX9_reads_75
  · rw [if_pos c1] at h
    refine lv_iconst (v := (2 : Int32)) X.1 X.2.1 dX9_reads_66 (by decide) ?_
    refine lv_goto (tgt := 71) X.1 X.2.1 dX9_reads_67 (by decide) ?_
    refine r_put X w lyM_0 rfl inT9 tyX9 tyX9_ok nmX9 16 rfl (by decide) rfl rfl tw_918 rfl rfl dX9_reads_71 (fun H locs w => ?_)
    obtain ⟨m3, em3, h⟩ := wk_some h
    rw [em3] at w
    refine lv_iconst (v := (0 : Int32)) X.1 X.2.1 dX9_reads_74 (by decide) ?_
    obtain ⟨rfl, rfl⟩ := Prod.mk.inj (Option.some.inj h)
    exact r_zret X M w (by decide) dX9_reads_75
def fX9_reads_b318  (mem : Mm) (x2 : Int32) (x6 : Int32) : Option (Mm × Int32) :=
  nz (fX9_wide (mem 0 11)) (wk mem 0 15 ((fX9_targetOf x6) + (x2 - x2 / (fX9_wide (mem 0 11)) * (fX9_wide (mem 0 11)))) (fun m2 => some (m2, (0 : Int32))))
set_option maxRecDepth 100000 in
set_option maxHeartbeats 4000000 in
theorem wX9_reads_b318 {p : Program} {l : Launch} {e : Env} {s : State} {m : MethodId} {args : Array Value} {below : List Frame} {meth : Method} {c : Code} {D : va_G} {ca : Nat → ClassId} {ad : Nat → Nat} {H : Heap} {locs : List Loc} {ls : Array Slot} {mem : Mm} {x2 : Int32} {x6 : Int32}  {mem' : Mm} {r : Int32} (X : CallFix p m c cX9_reads 9 s args TT RX9) (M : Mt meth (some .boolean))   (w : Wd D ca ad layM (AA ad layM.length) s.heap s mem H locs) (hl : lv_has ls 9 [(0, .ref (ad 0)), (2, .int x2), (6, .int x6)]) (h : fX9_reads_b318  mem x2 x6 = some (mem', r)) : W p l e (rmx 3 78) s m args below meth c H locs 0 0 (EndI D ca ad layM mem' r below args s) (F0 m 318 ls []) := by
  unfold fX9_reads_b318 at h
  refine lv_aload_n X.1 X.2.1 dX9_reads_318 rfl (lv_at hl 0 rfl) ?_
  refine lv_iload X.1 X.2.1 dX9_reads_319 (lv_at hl 2 rfl) ?_
  refine r_cSi (As := [.int x6]) (rest := [.ref (ad 0)]) X w (kX9_targetOf  l D ca ad mem x6  rfl) (gTS tw_1087 tw_1088 tw_75 tw_1089) hdX9_targetOf (by decide) rfl hl.1 rfl (Nat.le_of_ble_eq_true rfl) dX9_reads_321 ⟨Nat.zero_le _, Nat.zero_le _⟩ (fun H locs w => ?_)
  refine lv_iload_n X.1 X.2.1 dX9_reads_324 rfl (lv_at hl 1 rfl) ?_
  refine lv_aload_n X.1 X.2.1 dX9_reads_325 rfl (lv_at hl 0 rfl) ?_
  refine r_get X w lyM_0 rfl inT9 11 rfl (by decide) rfl tw_913 dX9_reads_326 ?_
  refine r_cSi (As := [.int (mem 0 11)]) (rest := [.int x2, .int (fX9_targetOf x6), .ref (ad 0)]) X w (kX9_wide  l D ca ad mem (mem 0 11)  rfl) (gTS tw_1066 tw_1067 tw_75 tw_1068) hdX9_wide (by decide) rfl hl.1 rfl (Nat.le_of_ble_eq_true rfl) dX9_reads_329 ⟨Nat.zero_le _, Nat.zero_le _⟩ (fun H locs w => ?_)
  obtain ⟨hz1, h⟩ := nz_some h
  refine lv_irem X.1 X.2.1 dX9_reads_332 hz1 ?_
  refine lv_iadd X.1 X.2.1 dX9_reads_333 ?_
  refine r_put X w lyM_0 rfl inT9 tyX9 tyX9_ok nmX9 15 rfl (by decide) rfl rfl tw_917 rfl rfl dX9_reads_334 (fun H locs w => ?_)
  obtain ⟨m2, em2, h⟩ := wk_some h
  rw [em2] at w
  refine lv_iconst (v := (0 : Int32)) X.1 X.2.1 dX9_reads_337 (by decide) ?_
  obtain ⟨rfl, rfl⟩ := Prod.mk.inj (Option.some.inj h)
  exact r_zret X M w (by decide) dX9_reads_338
def fX9_reads_b247  (mem : Mm) (x6 : Int32) : Option (Mm × Int32) :=
  wk mem 0 12 (fX9_targetOf x6) (fun m1 => wk m1 0 11 ((m1 0 11) - (1 : Int32)) (fun m2 => some (m2, (1 : Int32))))
set_option maxRecDepth 100000 in
set_option maxHeartbeats 4000000 in
theorem wX9_reads_b247 {p : Program} {l : Launch} {e : Env} {s : State} {m : MethodId} {args : Array Value} {below : List Frame} {meth : Method} {c : Code} {D : va_G} {ca : Nat → ClassId} {ad : Nat → Nat} {H : Heap} {locs : List Loc} {ls : Array Slot} {mem : Mm} {x6 : Int32}  {mem' : Mm} {r : Int32} (X : CallFix p m c cX9_reads 9 s args TT RX9) (M : Mt meth (some .boolean))   (w : Wd D ca ad layM (AA ad layM.length) s.heap s mem H locs) (hl : lv_has ls 9 [(0, .ref (ad 0)), (6, .int x6)]) (h : fX9_reads_b247  mem x6 = some (mem', r)) : W p l e (rmx 3 78) s m args below meth c H locs 0 0 (EndI D ca ad layM mem' r below args s) (F0 m 247 ls []) := by
  unfold fX9_reads_b247 at h
  refine lv_aload_n X.1 X.2.1 dX9_reads_247 rfl (lv_at hl 0 rfl) ?_
  refine lv_iload X.1 X.2.1 dX9_reads_248 (lv_at hl 1 rfl) ?_
  refine r_cSi (As := [.int x6]) (rest := [.ref (ad 0)]) X w (kX9_targetOf  l D ca ad mem x6  rfl) (gTS tw_1087 tw_1088 tw_75 tw_1089) hdX9_targetOf (by decide) rfl hl.1 rfl (Nat.le_of_ble_eq_true rfl) dX9_reads_250 ⟨Nat.zero_le _, Nat.zero_le _⟩ (fun H locs w => ?_)
  refine r_put X w lyM_0 rfl inT9 tyX9 tyX9_ok nmX9 12 rfl (by decide) rfl rfl tw_914 rfl rfl dX9_reads_253 (fun H locs w => ?_)
  obtain ⟨m1, em1, h⟩ := wk_some h
  rw [em1] at w
  refine lv_aload_n X.1 X.2.1 dX9_reads_256 rfl (lv_at hl 0 rfl) ?_
  refine lv_dup X.1 X.2.1 dX9_reads_257 rfl ?_
  refine r_get X w lyM_0 rfl inT9 11 rfl (by decide) rfl tw_913 dX9_reads_258 ?_
  refine lv_iconst (v := (1 : Int32)) X.1 X.2.1 dX9_reads_261 (by decide) ?_
  refine lv_isub X.1 X.2.1 dX9_reads_262 ?_
  refine r_put X w lyM_0 rfl inT9 tyX9 tyX9_ok nmX9 11 rfl (by decide) rfl rfl tw_913 rfl rfl dX9_reads_263 (fun H locs w => ?_)
  obtain ⟨m2, em2, h⟩ := wk_some h
  rw [em2] at w
  refine lv_iconst (v := (1 : Int32)) X.1 X.2.1 dX9_reads_266 (by decide) ?_
  obtain ⟨rfl, rfl⟩ := Prod.mk.inj (Option.some.inj h)
  exact r_zret X M w (by decide) dX9_reads_267
def fX9_reads_b211  (mem : Mm) (x1 : Int32) (x2 : Int32) (x5 : Int32) (x6 : Int32) (x7 : Int32) (s0 : Int32) : Option (Mm × Int32) :=
  if x7 = (1 : Int32) then if s0 = 0 then fX9_reads_b247 mem x6 else bw (fX9_comes mem (234 : Int32) x1 (mem 0 11) x2 (fX9_targetOf x6) (mem 0 13) (0 : Int32)) (fun m8 r7 => fX9_reads_b247 m8 x6) else if s0 = 0 then fX9_reads_b318 mem x2 x6 else gd ((96 : Int32) + x5) 345 (bw (fX9_comes mem (192 : Int32) x1 (mem 0 11) x2 (fX9_targetOf x6) ((mem 0 13) ||| ((fX9_rightsOf x6) &&& (8 : Int32))) (((mem 1 ((96 : Int32) + x5).toNatClampNeg) >>> ((1 : Int32) &&& 31)) &&& (1 : Int32))) (fun m5 r4 => fX9_reads_b318 m5 x2 x6))
set_option maxRecDepth 100000 in
set_option maxHeartbeats 4000000 in
theorem wX9_reads_b211 {p : Program} {l : Launch} {e : Env} {s : State} {m : MethodId} {args : Array Value} {below : List Frame} {meth : Method} {c : Code} {D : va_G} {ca : Nat → ClassId} {ad : Nat → Nat} {H : Heap} {locs : List Loc} {ls : Array Slot} {mem : Mm} {x1 : Int32} {x2 : Int32} {x5 : Int32} {x6 : Int32} {x7 : Int32} {s0 : Int32}  {mem' : Mm} {r : Int32} (X : CallFix p m c cX9_reads 9 s args TT RX9) (M : Mt meth (some .boolean))   (w : Wd D ca ad layM (AA ad layM.length) s.heap s mem H locs) (hl : lv_has ls 9 [(0, .ref (ad 0)), (1, .int x1), (2, .int x2), (5, .int x5), (6, .int x6), (7, .int x7)]) (h : fX9_reads_b211  mem x1 x2 x5 x6 x7 s0 = some (mem', r)) : W p l e (rmx 3 78) s m args below meth c H locs 0 0 (EndI D ca ad layM mem' r below args s) (F0 m 211 ls [.int s0]) := by
  unfold fX9_reads_b211 at h
  refine lv_istore (lv' := [(8, .int s0), (0, .ref (ad 0)), (1, .int x1), (2, .int x2), (5, .int x5), (6, .int x6), (7, .int x7)]) X.1 X.2.1 dX9_reads_211 hl (by decide) rfl (fun ls hl => ?_)
  refine lv_iload X.1 X.2.1 dX9_reads_213 (lv_at hl 6 rfl) ?_
  refine lv_iconst (v := (1 : Int32)) X.1 X.2.1 dX9_reads_215 (by decide) ?_
  refine lv_icmp_ne (tgt := 268) X.1 X.2.1 dX9_reads_216 (by decide) (fun c1 => ?_) (fun c1 => ?_)
  · rw [if_neg c1] at h
    refine lv_iload X.1 X.2.1 dX9_reads_268 (lv_at hl 0 rfl) ?_
    refine lv_if_eq (tgt := 318) X.1 X.2.1 dX9_reads_270 (by decide) (fun c2 => ?_) (fun c2 => ?_)
    · rw [if_pos c2] at h
      exact wX9_reads_b318 X M w (lv_sub hl [1, 3, 5] rfl) h
    · rw [if_neg c2] at h
      refine lv_aload_n X.1 X.2.1 dX9_reads_273 rfl (lv_at hl 1 rfl) ?_
      refine lv_sipush (v := (192 : Int32)) X.1 X.2.1 dX9_reads_274 (by decide) ?_
      refine lv_iload_n X.1 X.2.1 dX9_reads_277 rfl (lv_at hl 2 rfl) ?_
      refine lv_aload_n X.1 X.2.1 dX9_reads_278 rfl (lv_at hl 1 rfl) ?_
      refine r_get X w lyM_0 rfl inT9 11 rfl (by decide) rfl tw_913 dX9_reads_279 ?_
      refine lv_iload_n X.1 X.2.1 dX9_reads_282 rfl (lv_at hl 3 rfl) ?_
      refine lv_iload X.1 X.2.1 dX9_reads_283 (lv_at hl 5 rfl) ?_
      refine r_cSi (As := [.int x6]) (rest := [.int x2, .int (mem 0 11), .int x1, .int (192 : Int32), .ref (ad 0)]) X w (kX9_targetOf  l D ca ad mem x6  rfl) (gTS tw_1087 tw_1088 tw_75 tw_1089) hdX9_targetOf (by decide) rfl hl.1 rfl (Nat.le_of_ble_eq_true rfl) dX9_reads_285 ⟨Nat.zero_le _, Nat.zero_le _⟩ (fun H locs w => ?_)
      refine lv_aload_n X.1 X.2.1 dX9_reads_288 rfl (lv_at hl 1 rfl) ?_
      refine r_get X w lyM_0 rfl inT9 13 rfl (by decide) rfl tw_915 dX9_reads_289 ?_
      refine lv_iload X.1 X.2.1 dX9_reads_292 (lv_at hl 5 rfl) ?_
      refine r_cSi (As := [.int x6]) (rest := [.int (mem 0 13), .int (fX9_targetOf x6), .int x2, .int (mem 0 11), .int x1, .int (192 : Int32), .ref (ad 0)]) X w (kX9_rightsOf  l D ca ad mem x6  rfl) (gTS tw_1084 tw_1085 tw_75 tw_1086) hdX9_rightsOf (by decide) rfl hl.1 rfl (Nat.le_of_ble_eq_true rfl) dX9_reads_294 ⟨Nat.zero_le _, Nat.zero_le _⟩ (fun H locs w => ?_)
      refine lv_bipush (v := (8 : Int32)) X.1 X.2.1 dX9_reads_297 (by decide) ?_
      refine lv_iand X.1 X.2.1 dX9_reads_299 ?_
      refine lv_ior X.1 X.2.1 dX9_reads_300 ?_
      refine lv_aload_n X.1 X.2.1 dX9_reads_301 rfl (lv_at hl 1 rfl) ?_
      refine r_getr (b2 := 1) X w lyM_0 rfl inT9 1 rfl rfl (by decide) rfl tw_903 dX9_reads_302 ?_
      refine lv_bipush (v := (96 : Int32)) X.1 X.2.1 dX9_reads_305 (by decide) ?_
      refine lv_iload X.1 X.2.1 dX9_reads_307 (lv_at hl 4 rfl) ?_
      refine lv_iadd X.1 X.2.1 dX9_reads_309 ?_
      obtain ⟨hi3, h⟩ := gd_some h
      refine r_iald X w lyM_1 hi3 dX9_reads_310 ?_
      refine lv_iconst (v := (1 : Int32)) X.1 X.2.1 dX9_reads_311 (by decide) ?_
      refine lv_ishr X.1 X.2.1 dX9_reads_312 ?_
      refine lv_iconst (v := (1 : Int32)) X.1 X.2.1 dX9_reads_313 (by decide) ?_
      refine lv_iand X.1 X.2.1 dX9_reads_314 ?_
      obtain ⟨m5, r4, hr4, h⟩ := bw_some h
      refine r_cVv (As := [.int (192 : Int32), .int x1, .int (mem 0 11), .int x2, .int (fX9_targetOf x6), .int ((mem 0 13) ||| ((fX9_rightsOf x6) &&& (8 : Int32))), .int (((mem 1 ((96 : Int32) + x5).toNatClampNeg) >>> ((1 : Int32) &&& 31)) &&& (1 : Int32))]) (rest := []) X w lyM_0 rfl (kX9_comes  l D ca ad mem (192 : Int32) x1 (mem 0 11) x2 (fX9_targetOf x6) ((mem 0 13) ||| ((fX9_rightsOf x6) &&& (8 : Int32))) (((mem 1 ((96 : Int32) + x5).toNatClampNeg) >>> ((1 : Int32) &&& 31)) &&& (1 : Int32))  hr4) (gTV tw_1090 tw_1092 tw_43 tw_75 tw_1093) hdX9_comes (by decide) rfl hl.1 rfl (Nat.le_of_ble_eq_true rfl) dX9_reads_315 ⟨Nat.zero_le _, Nat.zero_le _⟩ (fun H locs w => ?_)
      exact wX9_reads_b318 X M w (lv_sub hl [1, 3, 5] rfl) h
  · rw [if_pos c1] at h
    refine lv_iload X.1 X.2.1 dX9_reads_219 (lv_at hl 0 rfl) ?_
    refine lv_if_eq (tgt := 247) X.1 X.2.1 dX9_reads_221 (by decide) (fun c6 => ?_) (fun c6 => ?_)
    · rw [if_pos c6] at h
      exact wX9_reads_b247 X M w (lv_sub hl [1, 5] rfl) h
    · rw [if_neg c6] at h
      refine lv_aload_n X.1 X.2.1 dX9_reads_224 rfl (lv_at hl 1 rfl) ?_
      refine lv_sipush (v := (234 : Int32)) X.1 X.2.1 dX9_reads_225 (by decide) ?_
      refine lv_iload_n X.1 X.2.1 dX9_reads_228 rfl (lv_at hl 2 rfl) ?_
      refine lv_aload_n X.1 X.2.1 dX9_reads_229 rfl (lv_at hl 1 rfl) ?_
      refine r_get X w lyM_0 rfl inT9 11 rfl (by decide) rfl tw_913 dX9_reads_230 ?_
      refine lv_iload_n X.1 X.2.1 dX9_reads_233 rfl (lv_at hl 3 rfl) ?_
      refine lv_iload X.1 X.2.1 dX9_reads_234 (lv_at hl 5 rfl) ?_
      refine r_cSi (As := [.int x6]) (rest := [.int x2, .int (mem 0 11), .int x1, .int (234 : Int32), .ref (ad 0)]) X w (kX9_targetOf  l D ca ad mem x6  rfl) (gTS tw_1087 tw_1088 tw_75 tw_1089) hdX9_targetOf (by decide) rfl hl.1 rfl (Nat.le_of_ble_eq_true rfl) dX9_reads_236 ⟨Nat.zero_le _, Nat.zero_le _⟩ (fun H locs w => ?_)
      refine lv_aload_n X.1 X.2.1 dX9_reads_239 rfl (lv_at hl 1 rfl) ?_
      refine r_get X w lyM_0 rfl inT9 13 rfl (by decide) rfl tw_915 dX9_reads_240 ?_
      refine lv_iconst (v := (0 : Int32)) X.1 X.2.1 dX9_reads_243 (by decide) ?_
      obtain ⟨m8, r7, hr7, h⟩ := bw_some h
      refine r_cVv (As := [.int (234 : Int32), .int x1, .int (mem 0 11), .int x2, .int (fX9_targetOf x6), .int (mem 0 13), .int (0 : Int32)]) (rest := []) X w lyM_0 rfl (kX9_comes  l D ca ad mem (234 : Int32) x1 (mem 0 11) x2 (fX9_targetOf x6) (mem 0 13) (0 : Int32)  hr7) (gTV tw_1090 tw_1092 tw_43 tw_75 tw_1093) hdX9_comes (by decide) rfl hl.1 rfl (Nat.le_of_ble_eq_true rfl) dX9_reads_244 ⟨Nat.zero_le _, Nat.zero_le _⟩ (fun H locs w => ?_)
      exact wX9_reads_b247 X M w (lv_sub hl [1, 5] rfl) h
def fX9_reads_b186  (mem : Mm) (x1 : Int32) (x2 : Int32) (x4 : Int32) (x5 : Int32) (x6 : Int32) (x7 : Int32) : Option (Mm × Int32) :=
  if x4 = 0 then fX9_reads_b211 mem x1 x2 x5 x6 x7 (1 : Int32) else gd ((96 : Int32) + x5) 345 (if ((mem 1 ((96 : Int32) + x5).toNatClampNeg) &&& (1 : Int32)) = 0 then fX9_reads_b211 mem x1 x2 x5 x6 x7 (0 : Int32) else fX9_reads_b211 mem x1 x2 x5 x6 x7 (1 : Int32))
set_option maxRecDepth 100000 in
set_option maxHeartbeats 4000000 in
theorem wX9_reads_b186 {p : Program} {l : Launch} {e : Env} {s : State} {m : MethodId} {args : Array Value} {below : List Frame} {meth : Method} {c : Code} {D : va_G} {ca : Nat → ClassId} {ad : Nat → Nat} {H : Heap} {locs : List Loc} {ls : Array Slot} {mem : Mm} {x1 : Int32} {x2 : Int32} {x4 : Int32} {x5 : Int32} {x6 : Int32} {x7 : Int32}  {mem' : Mm} {r : Int32} (X : CallFix p m c cX9_reads 9 s args TT RX9) (M : Mt meth (some .boolean))   (w : Wd D ca ad layM (AA ad layM.length) s.heap s mem H locs) (hl : lv_has ls 9 [(0, .ref (ad 0)), (1, .int x1), (2, .int x2), (4, .int x4), (5, .int x5), (6, .int x6), (7, .int x7)]) (h : fX9_reads_b186  mem x1 x2 x4 x5 x6 x7 = some (mem', r)) : W p l e (rmx 3 78) s m args below meth c H locs 0 0 (EndI D ca ad layM mem' r below args s) (F0 m 186 ls []) := by
  unfold fX9_reads_b186 at h
  refine lv_iload X.1 X.2.1 dX9_reads_186 (lv_at hl 3 rfl) ?_
  refine lv_if_eq (tgt := 206) X.1 X.2.1 dX9_reads_188 (by decide) (fun c1 => ?_) (fun c1 => ?_)
  · rw [if_pos c1] at h
    refine lv_iconst (v := (1 : Int32)) X.1 X.2.1 dX9_reads_206 (by decide) ?_
    refine lv_goto (tgt := 211) X.1 X.2.1 dX9_reads_207 (by decide) ?_
    exact wX9_reads_b211 X M w (lv_sub hl [0, 1, 2, 4, 5, 6] rfl) h
  · rw [if_neg c1] at h
    refine lv_aload_n X.1 X.2.1 dX9_reads_191 rfl (lv_at hl 0 rfl) ?_
    refine r_getr (b2 := 1) X w lyM_0 rfl inT9 1 rfl rfl (by decide) rfl tw_903 dX9_reads_192 ?_
    refine lv_bipush (v := (96 : Int32)) X.1 X.2.1 dX9_reads_195 (by decide) ?_
    refine lv_iload X.1 X.2.1 dX9_reads_197 (lv_at hl 4 rfl) ?_
    refine lv_iadd X.1 X.2.1 dX9_reads_199 ?_
    obtain ⟨hi2, h⟩ := gd_some h
    refine r_iald X w lyM_1 hi2 dX9_reads_200 ?_
    refine lv_iconst (v := (1 : Int32)) X.1 X.2.1 dX9_reads_201 (by decide) ?_
    refine lv_iand X.1 X.2.1 dX9_reads_202 ?_
    refine lv_if_eq (tgt := 210) X.1 X.2.1 dX9_reads_203 (by decide) (fun c3 => ?_) (fun c3 => ?_)
    · rw [if_pos c3] at h
      refine lv_iconst (v := (0 : Int32)) X.1 X.2.1 dX9_reads_210 (by decide) ?_
      exact wX9_reads_b211 X M w (lv_sub hl [0, 1, 2, 4, 5, 6] rfl) h
    · rw [if_neg c3] at h
      refine lv_iconst (v := (1 : Int32)) X.1 X.2.1 dX9_reads_206 (by decide) ?_
      refine lv_goto (tgt := 211) X.1 X.2.1 dX9_reads_207 (by decide) ?_
      exact wX9_reads_b211 X M w (lv_sub hl [0, 1, 2, 4, 5, 6] rfl) h
def fX9_reads_b170  (mem : Mm) (x1 : Int32) (x2 : Int32) (x4 : Int32) (x5 : Int32) (x6 : Int32) (x7 : Int32) (x8 : Int32) (s1 : Int32) (s2 : Int32) : Option (Mm × Int32) :=
  wk mem 0 14 (s1 + s2) (fun m1 => gd ((96 : Int32) + x5) 345 (wk m1 1 ((96 : Int32) + x5).toNatClampNeg x8 (fun m3 => fX9_reads_b186 m3 x1 x2 x4 x5 x6 x7)))
set_option maxRecDepth 100000 in
set_option maxHeartbeats 4000000 in
theorem wX9_reads_b170 {p : Program} {l : Launch} {e : Env} {s : State} {m : MethodId} {args : Array Value} {below : List Frame} {meth : Method} {c : Code} {D : va_G} {ca : Nat → ClassId} {ad : Nat → Nat} {H : Heap} {locs : List Loc} {ls : Array Slot} {mem : Mm} {x1 : Int32} {x2 : Int32} {x4 : Int32} {x5 : Int32} {x6 : Int32} {x7 : Int32} {x8 : Int32} {s1 : Int32} {s2 : Int32}  {mem' : Mm} {r : Int32} (X : CallFix p m c cX9_reads 9 s args TT RX9) (M : Mt meth (some .boolean))   (w : Wd D ca ad layM (AA ad layM.length) s.heap s mem H locs) (hl : lv_has ls 9 [(0, .ref (ad 0)), (1, .int x1), (2, .int x2), (4, .int x4), (5, .int x5), (6, .int x6), (7, .int x7), (8, .int x8)]) (h : fX9_reads_b170  mem x1 x2 x4 x5 x6 x7 x8 s1 s2 = some (mem', r)) : W p l e (rmx 3 78) s m args below meth c H locs 0 0 (EndI D ca ad layM mem' r below args s) (F0 m 170 ls [.int s2, .int s1, .ref (ad 0)]) := by
  unfold fX9_reads_b170 at h
  refine lv_iadd X.1 X.2.1 dX9_reads_170 ?_
  refine r_put X w lyM_0 rfl inT9 tyX9 tyX9_ok nmX9 14 rfl (by decide) rfl rfl tw_916 rfl rfl dX9_reads_171 (fun H locs w => ?_)
  obtain ⟨m1, em1, h⟩ := wk_some h
  rw [em1] at w
  refine lv_aload_n X.1 X.2.1 dX9_reads_174 rfl (lv_at hl 0 rfl) ?_
  refine r_getr (b2 := 1) X w lyM_0 rfl inT9 1 rfl rfl (by decide) rfl tw_903 dX9_reads_175 ?_
  refine lv_bipush (v := (96 : Int32)) X.1 X.2.1 dX9_reads_178 (by decide) ?_
  refine lv_iload X.1 X.2.1 dX9_reads_180 (lv_at hl 4 rfl) ?_
  refine lv_iadd X.1 X.2.1 dX9_reads_182 ?_
  refine lv_iload X.1 X.2.1 dX9_reads_183 (lv_at hl 7 rfl) ?_
  obtain ⟨hi2, h⟩ := gd_some h
  refine r_iast X w lyM_1 hi2 dX9_reads_185 (fun H locs w => ?_)
  obtain ⟨m3, em3, h⟩ := wk_some h
  rw [em3] at w
  exact wX9_reads_b186 X M w (lv_sub hl [0, 1, 2, 3, 4, 5, 6] rfl) h
def fX9_reads_b142  (mem : Mm) (x1 : Int32) (x2 : Int32) (x4 : Int32) (x5 : Int32) (x6 : Int32) (x7 : Int32) (s0 : Int32) (s1 : Int32) : Option (Mm × Int32) :=
  lk (s0 ||| s1) (fun x_1 => gd ((96 : Int32) + x5) 345 (if x_1 = (mem 1 ((96 : Int32) + x5).toNatClampNeg) then fX9_reads_b170 mem x1 x2 x4 x5 x6 x7 x_1 (mem 0 14) (0 : Int32) else fX9_reads_b170 mem x1 x2 x4 x5 x6 x7 x_1 (mem 0 14) (1 : Int32)))
set_option maxRecDepth 100000 in
set_option maxHeartbeats 4000000 in
theorem wX9_reads_b142 {p : Program} {l : Launch} {e : Env} {s : State} {m : MethodId} {args : Array Value} {below : List Frame} {meth : Method} {c : Code} {D : va_G} {ca : Nat → ClassId} {ad : Nat → Nat} {H : Heap} {locs : List Loc} {ls : Array Slot} {mem : Mm} {x1 : Int32} {x2 : Int32} {x4 : Int32} {x5 : Int32} {x6 : Int32} {x7 : Int32} {s0 : Int32} {s1 : Int32}  {mem' : Mm} {r : Int32} (X : CallFix p m c cX9_reads 9 s args TT RX9) (M : Mt meth (some .boolean))   (w : Wd D ca ad layM (AA ad layM.length) s.heap s mem H locs) (hl : lv_has ls 9 [(0, .ref (ad 0)), (1, .int x1), (2, .int x2), (4, .int x4), (5, .int x5), (6, .int x6), (7, .int x7)]) (h : fX9_reads_b142  mem x1 x2 x4 x5 x6 x7 s0 s1 = some (mem', r)) : W p l e (rmx 3 78) s m args below meth c H locs 0 0 (EndI D ca ad layM mem' r below args s) (F0 m 142 ls [.int s1, .int s0]) := by
  unfold fX9_reads_b142 at h
  refine lv_ior X.1 X.2.1 dX9_reads_142 ?_
  obtain ⟨x_1, ex_1, h⟩ := lk_some h
  refine lv_name ex_1 ?_
  refine lv_istore (lv' := [(8, .int x_1), (0, .ref (ad 0)), (1, .int x1), (2, .int x2), (4, .int x4), (5, .int x5), (6, .int x6), (7, .int x7)]) X.1 X.2.1 dX9_reads_143 hl (by decide) rfl (fun ls hl => ?_)
  refine lv_aload_n X.1 X.2.1 dX9_reads_145 rfl (lv_at hl 1 rfl) ?_
  refine lv_dup X.1 X.2.1 dX9_reads_146 rfl ?_
  refine r_get X w lyM_0 rfl inT9 14 rfl (by decide) rfl tw_916 dX9_reads_147 ?_
  refine lv_iload X.1 X.2.1 dX9_reads_150 (lv_at hl 0 rfl) ?_
  refine lv_aload_n X.1 X.2.1 dX9_reads_152 rfl (lv_at hl 1 rfl) ?_
  refine r_getr (b2 := 1) X w lyM_0 rfl inT9 1 rfl rfl (by decide) rfl tw_903 dX9_reads_153 ?_
  refine lv_bipush (v := (96 : Int32)) X.1 X.2.1 dX9_reads_156 (by decide) ?_
  refine lv_iload X.1 X.2.1 dX9_reads_158 (lv_at hl 5 rfl) ?_
  refine lv_iadd X.1 X.2.1 dX9_reads_160 ?_
  obtain ⟨hi2, h⟩ := gd_some h
  refine r_iald X w lyM_1 hi2 dX9_reads_161 ?_
  refine lv_icmp_eq (tgt := 169) X.1 X.2.1 dX9_reads_162 (by decide) (fun c3 => ?_) (fun c3 => ?_)
  · rw [if_pos c3] at h
    refine lv_iconst (v := (0 : Int32)) X.1 X.2.1 dX9_reads_169 (by decide) ?_
    exact wX9_reads_b170 X M w (lv_sub hl [1, 2, 3, 4, 5, 6, 7, 0] rfl) h
  · rw [if_neg c3] at h
    refine lv_iconst (v := (1 : Int32)) X.1 X.2.1 dX9_reads_165 (by decide) ?_
    refine lv_goto (tgt := 170) X.1 X.2.1 dX9_reads_166 (by decide) ?_
    exact wX9_reads_b170 X M w (lv_sub hl [1, 2, 3, 4, 5, 6, 7, 0] rfl) h
def fX9_reads_b76  (mem : Mm) (x1 : Int32) (x2 : Int32) (x3 : Int32) (x4 : Int32) (x5 : Int32) (x6 : Int32) (x7 : Int32) : Option (Mm × Int32) :=
  wk mem 0 13 ((mem 0 13) &&& (fX9_rightsOf x6)) (fun m1 => if (x3 &&& ((m1 0 13) ^^^ (-1 : Int32))) = 0 then if x4 = 0 then gd ((96 : Int32) + x5) 345 (if x7 = (2 : Int32) then if (x3 &&& (1 : Int32)) = 0 then fX9_reads_b142 m1 x1 x2 x4 x5 x6 x7 ((m1 1 ((96 : Int32) + x5).toNatClampNeg) ||| (1 : Int32)) (0 : Int32) else fX9_reads_b142 m1 x1 x2 x4 x5 x6 x7 ((m1 1 ((96 : Int32) + x5).toNatClampNeg) ||| (1 : Int32)) (2 : Int32) else fX9_reads_b142 m1 x1 x2 x4 x5 x6 x7 ((m1 1 ((96 : Int32) + x5).toNatClampNeg) ||| (1 : Int32)) (0 : Int32)) else fX9_reads_b186 m1 x1 x2 x4 x5 x6 x7 else wk m1 0 16 (4 : Int32) (fun m7 => some (m7, (0 : Int32))))
set_option maxRecDepth 100000 in
set_option maxHeartbeats 4000000 in
theorem wX9_reads_b76 {p : Program} {l : Launch} {e : Env} {s : State} {m : MethodId} {args : Array Value} {below : List Frame} {meth : Method} {c : Code} {D : va_G} {ca : Nat → ClassId} {ad : Nat → Nat} {H : Heap} {locs : List Loc} {ls : Array Slot} {mem : Mm} {x1 : Int32} {x2 : Int32} {x3 : Int32} {x4 : Int32} {x5 : Int32} {x6 : Int32} {x7 : Int32}  {mem' : Mm} {r : Int32} (X : CallFix p m c cX9_reads 9 s args TT RX9) (M : Mt meth (some .boolean))   (w : Wd D ca ad layM (AA ad layM.length) s.heap s mem H locs) (hl : lv_has ls 9 [(0, .ref (ad 0)), (1, .int x1), (2, .int x2), (3, .int x3), (4, .int x4), (5, .int x5), (6, .int x6), (7, .int x7)]) (h : fX9_reads_b76  mem x1 x2 x3 x4 x5 x6 x7 = some (mem', r)) : W p l e (rmx 3 78) s m args below meth c H locs 0 0 (EndI D ca ad layM mem' r below args s) (F0 m 76 ls []) := by
  unfold fX9_reads_b76 at h
  refine lv_aload_n X.1 X.2.1 dX9_reads_76 rfl (lv_at hl 0 rfl) ?_
  refine lv_dup X.1 X.2.1 dX9_reads_77 rfl ?_
  refine r_get X w lyM_0 rfl inT9 13 rfl (by decide) rfl tw_915 dX9_reads_78 ?_
  refine lv_iload X.1 X.2.1 dX9_reads_81 (lv_at hl 6 rfl) ?_
  refine r_cSi (As := [.int x6]) (rest := [.int (mem 0 13), .ref (ad 0)]) X w (kX9_rightsOf  l D ca ad mem x6  rfl) (gTS tw_1084 tw_1085 tw_75 tw_1086) hdX9_rightsOf (by decide) rfl hl.1 rfl (Nat.le_of_ble_eq_true rfl) dX9_reads_83 ⟨Nat.zero_le _, Nat.zero_le _⟩ (fun H locs w => ?_)
  refine lv_iand X.1 X.2.1 dX9_reads_86 ?_
  refine r_put X w lyM_0 rfl inT9 tyX9 tyX9_ok nmX9 13 rfl (by decide) rfl rfl tw_915 rfl rfl dX9_reads_87 (fun H locs w => ?_)
  obtain ⟨m1, em1, h⟩ := wk_some h
  rw [em1] at w
  refine lv_iload_n X.1 X.2.1 dX9_reads_90 rfl (lv_at hl 3 rfl) ?_
  refine lv_aload_n X.1 X.2.1 dX9_reads_91 rfl (lv_at hl 0 rfl) ?_
  refine r_get X w lyM_0 rfl inT9 13 rfl (by decide) rfl tw_915 dX9_reads_92 ?_
  refine lv_iconst (v := (-1 : Int32)) X.1 X.2.1 dX9_reads_95 (by decide) ?_
  refine lv_ixor X.1 X.2.1 dX9_reads_96 ?_
  refine lv_iand X.1 X.2.1 dX9_reads_97 ?_
  refine lv_if_eq (tgt := 108) X.1 X.2.1 dX9_reads_98 (by decide) (fun c2 => ?_) (fun c2 => ?_)
  · rw [if_pos c2] at h
    refine lv_iload X.1 X.2.1 dX9_reads_108 (lv_at hl 4 rfl) ?_
    refine lv_if_ne (tgt := 186) X.1 X.2.1 dX9_reads_110 (by decide) (fun c3 => ?_) (fun c3 => ?_)
    · rw [if_neg c3] at h
      exact wX9_reads_b186 X M w (lv_sub hl [0, 1, 2, 4, 5, 6, 7] rfl) h
    · rw [if_pos c3] at h
      refine lv_aload_n X.1 X.2.1 dX9_reads_113 rfl (lv_at hl 0 rfl) ?_
      refine r_getr (b2 := 1) X w lyM_0 rfl inT9 1 rfl rfl (by decide) rfl tw_903 dX9_reads_114 ?_
      refine lv_bipush (v := (96 : Int32)) X.1 X.2.1 dX9_reads_117 (by decide) ?_
      refine lv_iload X.1 X.2.1 dX9_reads_119 (lv_at hl 5 rfl) ?_
      refine lv_iadd X.1 X.2.1 dX9_reads_121 ?_
      obtain ⟨hi4, h⟩ := gd_some h
      refine r_iald X w lyM_1 hi4 dX9_reads_122 ?_
      refine lv_iconst (v := (1 : Int32)) X.1 X.2.1 dX9_reads_123 (by decide) ?_
      refine lv_ior X.1 X.2.1 dX9_reads_124 ?_
      refine lv_iload X.1 X.2.1 dX9_reads_125 (lv_at hl 7 rfl) ?_
      refine lv_iconst (v := (2 : Int32)) X.1 X.2.1 dX9_reads_127 (by decide) ?_
      refine lv_icmp_ne (tgt := 141) X.1 X.2.1 dX9_reads_128 (by decide) (fun c5 => ?_) (fun c5 => ?_)
      · rw [if_neg c5] at h
        refine lv_iconst (v := (0 : Int32)) X.1 X.2.1 dX9_reads_141 (by decide) ?_
        exact wX9_reads_b142 X M w (lv_sub hl [0, 1, 2, 4, 5, 6, 7] rfl) h
      · rw [if_pos c5] at h
        refine lv_iload_n X.1 X.2.1 dX9_reads_131 rfl (lv_at hl 3 rfl) ?_
        refine lv_iconst (v := (1 : Int32)) X.1 X.2.1 dX9_reads_132 (by decide) ?_
        refine lv_iand X.1 X.2.1 dX9_reads_133 ?_
        refine lv_if_eq (tgt := 141) X.1 X.2.1 dX9_reads_134 (by decide) (fun c6 => ?_) (fun c6 => ?_)
        · rw [if_pos c6] at h
          refine lv_iconst (v := (0 : Int32)) X.1 X.2.1 dX9_reads_141 (by decide) ?_
          exact wX9_reads_b142 X M w (lv_sub hl [0, 1, 2, 4, 5, 6, 7] rfl) h
        · rw [if_neg c6] at h
          refine lv_iconst (v := (2 : Int32)) X.1 X.2.1 dX9_reads_137 (by decide) ?_
          refine lv_goto (tgt := 142) X.1 X.2.1 dX9_reads_138 (by decide) ?_
          exact wX9_reads_b142 X M w (lv_sub hl [0, 1, 2, 4, 5, 6, 7] rfl) h
  · rw [if_neg c2] at h
    refine lv_aload_n X.1 X.2.1 dX9_reads_101 rfl (lv_at hl 0 rfl) ?_
    refine lv_iconst (v := (4 : Int32)) X.1 X.2.1 dX9_reads_102 (by decide) ?_
    refine r_put X w lyM_0 rfl inT9 tyX9 tyX9_ok nmX9 16 rfl (by decide) rfl rfl tw_918 rfl rfl dX9_reads_103 (fun H locs w => ?_)
    obtain ⟨m7, em7, h⟩ := wk_some h
    rw [em7] at w
    refine lv_iconst (v := (0 : Int32)) X.1 X.2.1 dX9_reads_106 (by decide) ?_
    obtain ⟨rfl, rfl⟩ := Prod.mk.inj (Option.some.inj h)
    exact r_zret X M w (by decide) dX9_reads_107
def fX9_reads (mem : Mm) (a1 : Int32) (a2 : Int32) (a3 : Int32) (a4 : Int32) : Option (Mm × Int32) :=
  bd (fX9_place (mem 0 12) a2 (mem 0 11)) (fun r1 => gd ((0 : Int32) + r1) 345 (lk (mem 1 ((0 : Int32) + r1).toNatClampNeg) (fun x_3 => lk (fX9_whatOf x_3) (fun x_4 => wk mem 0 14 ((mem 0 14) + (1 : Int32)) (fun m5 => if x_4 = 0 then fX9_reads_b60 m5 x_4 else if x_4 = (1 : Int32) then if (m5 0 11) = 0 then fX9_reads_b60 m5 x_4 else fX9_reads_b76 m5 a1 a2 a3 a4 r1 x_3 x_4 else fX9_reads_b76 m5 a1 a2 a3 a4 r1 x_3 x_4)))))
set_option maxRecDepth 100000 in
set_option maxHeartbeats 4000000 in
theorem kX9_reads (l : Launch) (D : va_G) (ca : Nat → ClassId) (ad : Nat → Nat) (mem : Mm) (a1 : Int32) (a2 : Int32) (a3 : Int32) (a4 : Int32)  {mem' : Mm} {r : Int32} (h : fX9_reads mem a1 a2 a3 a4 = some (mem', r)) : CtI l yX9_reads cX9_reads 9 (some .boolean) (rmx 3 78) D ca ad layM mem [.ref (ad 0), .int a1, .int a2, .int a3, .int a4] mem' r := by
  refine CtI.of (by decide) (Nat.le_of_ble_eq_true rfl) ?_
  intro p e s m args below meth c H locs ls X M w hl
  replace X : CallFix p m c cX9_reads 9 s args TT RX9 := X
  replace hl : lv_has ls 9 [(0, .ref (ad 0)), (1, .int a1), (2, .int a2), (3, .int a3), (4, .int a4)] := hl
  unfold fX9_reads at h
  refine lv_aload_n X.1 X.2.1 dX9_reads_0 rfl (lv_at hl 0 rfl) ?_
  refine r_get X w lyM_0 rfl inT9 12 rfl (by decide) rfl tw_914 dX9_reads_1 ?_
  refine lv_iload_n X.1 X.2.1 dX9_reads_4 rfl (lv_at hl 2 rfl) ?_
  refine lv_aload_n X.1 X.2.1 dX9_reads_5 rfl (lv_at hl 0 rfl) ?_
  refine r_get X w lyM_0 rfl inT9 11 rfl (by decide) rfl tw_913 dX9_reads_6 ?_
  obtain ⟨r1, hr1, h⟩ := bd_some h
  refine r_cSi (As := [.int (mem 0 12), .int a2, .int (mem 0 11)]) (rest := []) X w (kX9_place  l D ca ad mem (mem 0 12) a2 (mem 0 11)  hr1) (gTS tw_1081 tw_1082 tw_75 tw_1083) hdX9_place (by decide) rfl hl.1 rfl (Nat.le_of_ble_eq_true rfl) dX9_reads_9 ⟨Nat.zero_le _, Nat.zero_le _⟩ (fun H locs w => ?_)
  refine lv_istore (lv' := [(5, .int r1), (0, .ref (ad 0)), (1, .int a1), (2, .int a2), (3, .int a3), (4, .int a4)]) X.1 X.2.1 dX9_reads_12 hl (by decide) rfl (fun ls hl => ?_)
  refine lv_aload_n X.1 X.2.1 dX9_reads_14 rfl (lv_at hl 1 rfl) ?_
  refine r_getr (b2 := 1) X w lyM_0 rfl inT9 1 rfl rfl (by decide) rfl tw_903 dX9_reads_15 ?_
  refine lv_iconst (v := (0 : Int32)) X.1 X.2.1 dX9_reads_18 (by decide) ?_
  refine lv_iload X.1 X.2.1 dX9_reads_19 (lv_at hl 0 rfl) ?_
  refine lv_iadd X.1 X.2.1 dX9_reads_21 ?_
  obtain ⟨hi2, h⟩ := gd_some h
  refine r_iald X w lyM_1 hi2 dX9_reads_22 ?_
  obtain ⟨x_3, ex_3, h⟩ := lk_some h
  refine lv_name ex_3 ?_
  refine lv_istore (lv' := [(6, .int x_3), (5, .int r1), (0, .ref (ad 0)), (1, .int a1), (2, .int a2), (3, .int a3), (4, .int a4)]) X.1 X.2.1 dX9_reads_23 hl (by decide) rfl (fun ls hl => ?_)
  refine lv_iload X.1 X.2.1 dX9_reads_25 (lv_at hl 0 rfl) ?_
  refine r_cSi (As := [.int x_3]) (rest := []) X w (kX9_whatOf  l D ca ad mem x_3  rfl) (gTS tw_993 tw_994 tw_75 tw_995) hdX9_whatOf (by decide) rfl hl.1 rfl (Nat.le_of_ble_eq_true rfl) dX9_reads_27 ⟨Nat.zero_le _, Nat.zero_le _⟩ (fun H locs w => ?_)
  obtain ⟨x_4, ex_4, h⟩ := lk_some h
  refine lv_name ex_4 ?_
  refine lv_istore (lv' := [(7, .int x_4), (6, .int x_3), (5, .int r1), (0, .ref (ad 0)), (1, .int a1), (2, .int a2), (3, .int a3), (4, .int a4)]) X.1 X.2.1 dX9_reads_30 hl (by decide) rfl (fun ls hl => ?_)
  refine lv_aload_n X.1 X.2.1 dX9_reads_32 rfl (lv_at hl 3 rfl) ?_
  refine lv_dup X.1 X.2.1 dX9_reads_33 rfl ?_
  refine r_get X w lyM_0 rfl inT9 14 rfl (by decide) rfl tw_916 dX9_reads_34 ?_
  refine lv_iconst (v := (1 : Int32)) X.1 X.2.1 dX9_reads_37 (by decide) ?_
  refine lv_iadd X.1 X.2.1 dX9_reads_38 ?_
  refine r_put X w lyM_0 rfl inT9 tyX9 tyX9_ok nmX9 14 rfl (by decide) rfl rfl tw_916 rfl rfl dX9_reads_39 (fun H locs w => ?_)
  obtain ⟨m5, em5, h⟩ := wk_some h
  rw [em5] at w
  refine lv_iload X.1 X.2.1 dX9_reads_42 (lv_at hl 0 rfl) ?_
  refine lv_if_eq (tgt := 60) X.1 X.2.1 dX9_reads_44 (by decide) (fun c6 => ?_) (fun c6 => ?_)
  · rw [if_pos c6] at h
    exact wX9_reads_b60 X M w (lv_sub hl [3, 0] rfl) h
  · rw [if_neg c6] at h
    refine lv_iload X.1 X.2.1 dX9_reads_47 (lv_at hl 0 rfl) ?_
    refine lv_iconst (v := (1 : Int32)) X.1 X.2.1 dX9_reads_49 (by decide) ?_
    refine lv_icmp_ne (tgt := 76) X.1 X.2.1 dX9_reads_50 (by decide) (fun c7 => ?_) (fun c7 => ?_)
    · rw [if_neg c7] at h
      exact wX9_reads_b76 X M w (lv_sub hl [3, 4, 5, 6, 7, 2, 1, 0] rfl) h
    · rw [if_pos c7] at h
      refine lv_aload_n X.1 X.2.1 dX9_reads_53 rfl (lv_at hl 3 rfl) ?_
      refine r_get X w lyM_0 rfl inT9 11 rfl (by decide) rfl tw_913 dX9_reads_54 ?_
      refine lv_if_ne (tgt := 76) X.1 X.2.1 dX9_reads_57 (by decide) (fun c8 => ?_) (fun c8 => ?_)
      · rw [if_neg c8] at h
        exact wX9_reads_b76 X M w (lv_sub hl [3, 4, 5, 6, 7, 2, 1, 0] rfl) h
      · rw [if_pos c8] at h
        exact wX9_reads_b60 X M w (lv_sub hl [3, 0] rfl) h
/-! WalkHouseModel.fits(II)Z (R) -/
theorem hdX9_fits : yX9_fits.cls = RX9 ∧ yX9_fits.cls ≠ "java/lang/invoke/MethodHandle" ∧ yX9_fits.cls ≠ "java/lang/invoke/VarHandle" ∧ (parseMethodDescriptor yX9_fits.desc).map (fun d => d.parameters.length) = some 2 := by decide +kernel
def fX9_fits (mem : Mm) (a1 : Int32) (a2 : Int32) : Option Int32 :=
  bd (fX9_isUnder mem a1 a2) (fun r1 => if r1 = 0 then some (0 : Int32) else gd a1 345 (gd (344 : Int32) 345 (gd ((332 : Int32) + (mem 1 (344 : Int32).toNatClampNeg)) 345 (if (mem 1 a1.toNatClampNeg) = (mem 1 ((332 : Int32) + (mem 1 (344 : Int32).toNatClampNeg)).toNatClampNeg) then some (1 : Int32) else gd (a1 + (4 : Int32)) 345 (if ((mem 1 (a1 + (4 : Int32)).toNatClampNeg) &&& (8 : Int32)) = 0 then some (0 : Int32) else some (1 : Int32))))))
set_option maxRecDepth 100000 in
set_option maxHeartbeats 4000000 in
theorem kX9_fits (l : Launch) (D : va_G) (ca : Nat → ClassId) (ad : Nat → Nat) (mem : Mm) (a1 : Int32) (a2 : Int32)  {r : Int32} (h : fX9_fits mem a1 a2 = some r) : CtI l yX9_fits cX9_fits 3 (some .boolean) (rmx 2 43) D ca ad layM mem [.ref (ad 0), .int a1, .int a2] mem r := by
  refine CtI.of (by decide) (Nat.le_of_ble_eq_true rfl) ?_
  intro p e s m args below meth c H locs ls X M w hl
  replace X : CallFix p m c cX9_fits 3 s args TT RX9 := X
  replace hl : lv_has ls 3 [(0, .ref (ad 0)), (1, .int a1), (2, .int a2)] := hl
  unfold fX9_fits at h
  refine lv_aload_n X.1 X.2.1 dX9_fits_0 rfl (lv_at hl 0 rfl) ?_
  refine lv_iload_n X.1 X.2.1 dX9_fits_1 rfl (lv_at hl 1 rfl) ?_
  refine lv_iload_n X.1 X.2.1 dX9_fits_2 rfl (lv_at hl 2 rfl) ?_
  obtain ⟨r1, hr1, h⟩ := bd_some h
  refine r_cVi (As := [.int a1, .int a2]) (rest := []) X w lyM_0 rfl (kX9_isUnder  l D ca ad mem a1 a2  hr1) (gTV tw_1058 tw_1060 tw_38 tw_75 tw_1061) hdX9_isUnder (by decide) rfl hl.1 rfl (Nat.le_of_ble_eq_true rfl) dX9_fits_3 ⟨Nat.zero_le _, Nat.zero_le _⟩ (fun H locs w => ?_)
  refine lv_if_eq (tgt := 53) X.1 X.2.1 dX9_fits_6 (by decide) (fun c2 => ?_) (fun c2 => ?_)
  · rw [if_pos c2] at h
    refine lv_iconst (v := (0 : Int32)) X.1 X.2.1 dX9_fits_53 (by decide) ?_
    obtain rfl := Option.some.inj h
    exact r_zret X M w (by decide) dX9_fits_54
  · rw [if_neg c2] at h
    refine lv_aload_n X.1 X.2.1 dX9_fits_9 rfl (lv_at hl 0 rfl) ?_
    refine r_getr (b2 := 1) X w lyM_0 rfl inT9 1 rfl rfl (by decide) rfl tw_903 dX9_fits_10 ?_
    refine lv_iload_n X.1 X.2.1 dX9_fits_13 rfl (lv_at hl 1 rfl) ?_
    obtain ⟨hi3, h⟩ := gd_some h
    refine r_iald X w lyM_1 hi3 dX9_fits_14 ?_
    refine lv_aload_n X.1 X.2.1 dX9_fits_15 rfl (lv_at hl 0 rfl) ?_
    refine r_getr (b2 := 1) X w lyM_0 rfl inT9 1 rfl rfl (by decide) rfl tw_903 dX9_fits_16 ?_
    refine lv_sipush (v := (332 : Int32)) X.1 X.2.1 dX9_fits_19 (by decide) ?_
    refine lv_aload_n X.1 X.2.1 dX9_fits_22 rfl (lv_at hl 0 rfl) ?_
    refine r_getr (b2 := 1) X w lyM_0 rfl inT9 1 rfl rfl (by decide) rfl tw_903 dX9_fits_23 ?_
    refine lv_sipush (v := (344 : Int32)) X.1 X.2.1 dX9_fits_26 (by decide) ?_
    obtain ⟨hi4, h⟩ := gd_some h
    refine r_iald X w lyM_1 hi4 dX9_fits_29 ?_
    refine lv_iadd X.1 X.2.1 dX9_fits_30 ?_
    obtain ⟨hi5, h⟩ := gd_some h
    refine r_iald X w lyM_1 hi5 dX9_fits_31 ?_
    refine lv_icmp_eq (tgt := 49) X.1 X.2.1 dX9_fits_32 (by decide) (fun c6 => ?_) (fun c6 => ?_)
    · rw [if_pos c6] at h
      refine lv_iconst (v := (1 : Int32)) X.1 X.2.1 dX9_fits_49 (by decide) ?_
      refine lv_goto (tgt := 54) X.1 X.2.1 dX9_fits_50 (by decide) ?_
      obtain rfl := Option.some.inj h
      exact r_zret X M w (by decide) dX9_fits_54
    · rw [if_neg c6] at h
      refine lv_aload_n X.1 X.2.1 dX9_fits_35 rfl (lv_at hl 0 rfl) ?_
      refine r_getr (b2 := 1) X w lyM_0 rfl inT9 1 rfl rfl (by decide) rfl tw_903 dX9_fits_36 ?_
      refine lv_iload_n X.1 X.2.1 dX9_fits_39 rfl (lv_at hl 1 rfl) ?_
      refine lv_iconst (v := (4 : Int32)) X.1 X.2.1 dX9_fits_40 (by decide) ?_
      refine lv_iadd X.1 X.2.1 dX9_fits_41 ?_
      obtain ⟨hi7, h⟩ := gd_some h
      refine r_iald X w lyM_1 hi7 dX9_fits_42 ?_
      refine lv_bipush (v := (8 : Int32)) X.1 X.2.1 dX9_fits_43 (by decide) ?_
      refine lv_iand X.1 X.2.1 dX9_fits_45 ?_
      refine lv_if_eq (tgt := 53) X.1 X.2.1 dX9_fits_46 (by decide) (fun c8 => ?_) (fun c8 => ?_)
      · rw [if_pos c8] at h
        refine lv_iconst (v := (0 : Int32)) X.1 X.2.1 dX9_fits_53 (by decide) ?_
        obtain rfl := Option.some.inj h
        exact r_zret X M w (by decide) dX9_fits_54
      · rw [if_neg c8] at h
        refine lv_iconst (v := (1 : Int32)) X.1 X.2.1 dX9_fits_49 (by decide) ?_
        refine lv_goto (tgt := 54) X.1 X.2.1 dX9_fits_50 (by decide) ?_
        obtain rfl := Option.some.inj h
        exact r_zret X M w (by decide) dX9_fits_54
/-! WalkHouseModel.latestThatFits(I)I (R) -/
theorem hdX9_latestThatFits : yX9_latestThatFits.cls = RX9 ∧ yX9_latestThatFits.cls ≠ "java/lang/invoke/MethodHandle" ∧ yX9_latestThatFits.cls ≠ "java/lang/invoke/VarHandle" ∧ (parseMethodDescriptor yX9_latestThatFits.desc).map (fun d => d.parameters.length) = some 1 := by decide +kernel
def fX9_latestThatFits_b4_s  (k4 : Mm → Int32 → Int32 → Int32 → Option Int32) (mem : Mm) (x1 : Int32) (x2 : Int32) (x3 : Int32) : Option Int32 :=
  if (6 : Int32) ≤ x3 then some x2 else lk ((192 : Int32) + ((7 : Int32) * x3)) (fun x_2 => bd (fX9_fits mem x_2 x1) (fun r3 => if r3 = 0 then k4 mem x1 x2 (x3 + (1 : Int32)) else if x2 < 0 then k4 mem x1 x_2 (x3 + (1 : Int32)) else gd (x_2 + (6 : Int32)) 345 (gd (x2 + (6 : Int32)) 345 (if (mem 1 (x_2 + (6 : Int32)).toNatClampNeg) ≤ (mem 1 (x2 + (6 : Int32)).toNatClampNeg) then k4 mem x1 x2 (x3 + (1 : Int32)) else k4 mem x1 x_2 (x3 + (1 : Int32))))))
def fX9_latestThatFits_b4  : Nat → Mm → Int32 → Int32 → Int32 → Option Int32
  | 0 => fun _ _ _ _ => none
  | n + 1 => fX9_latestThatFits_b4_s  (fX9_latestThatFits_b4  n)
set_option maxRecDepth 100000 in
set_option maxHeartbeats 4000000 in
theorem wX9_latestThatFits_b4_s {p : Program} {l : Launch} {e : Env} {s : State} {m : MethodId} {args : Array Value} {below : List Frame} {meth : Method} {c : Code} {D : va_G} {ca : Nat → ClassId} {ad : Nat → Nat} {H : Heap} {locs : List Loc} {ls : Array Slot} {mem : Mm} {x1 : Int32} {x2 : Int32} {x3 : Int32}  {k4 : Mm → Int32 → Int32 → Int32 → Option Int32} {r : Int32} (X : CallFix p m c cX9_latestThatFits 5 s args TT RX9) (M : Mt meth (some .int))  (hk4 : ∀ (x1 : Int32) (x2 : Int32) (x3 : Int32) (H : Heap) (locs : List Loc) (ls : Array Slot) , Wd D ca ad layM (AA ad layM.length) s.heap s mem H locs → lv_has ls 5 [(0, .ref (ad 0)), (1, .int x1), (2, .int x2), (3, .int x3)] → k4 mem x1 x2 x3 = some r → W p l e (rmx 3 65) s m args below meth c H locs 0 0 (EndI D ca ad layM mem r below args s) (F0 m 4 ls []))  (w : Wd D ca ad layM (AA ad layM.length) s.heap s mem H locs) (hl : lv_has ls 5 [(0, .ref (ad 0)), (1, .int x1), (2, .int x2), (3, .int x3)]) (h : fX9_latestThatFits_b4_s  k4 mem x1 x2 x3 = some r) : W p l e (rmx 3 65) s m args below meth c H locs 0 0 (EndI D ca ad layM mem r below args s) (F0 m 4 ls []) := by
  unfold fX9_latestThatFits_b4_s at h
  refine lv_iload_n X.1 X.2.1 dX9_latestThatFits_4 rfl (lv_at hl 3 rfl) ?_
  refine lv_bipush (v := (6 : Int32)) X.1 X.2.1 dX9_latestThatFits_5 (by decide) ?_
  refine lv_icmp_ge (tgt := 69) X.1 X.2.1 dX9_latestThatFits_7 (by decide) (fun c1 => ?_) (fun c1 => ?_)
  · rw [if_pos c1] at h
    refine lv_iload_n X.1 X.2.1 dX9_latestThatFits_69 rfl (lv_at hl 2 rfl) ?_
    obtain rfl := Option.some.inj h
    exact r_iret X M w dX9_latestThatFits_70
  · rw [if_neg c1] at h
    refine lv_sipush (v := (192 : Int32)) X.1 X.2.1 dX9_latestThatFits_10 (by decide) ?_
    refine lv_bipush (v := (7 : Int32)) X.1 X.2.1 dX9_latestThatFits_13 (by decide) ?_
    refine lv_iload_n X.1 X.2.1 dX9_latestThatFits_15 rfl (lv_at hl 3 rfl) ?_
    refine lv_imul X.1 X.2.1 dX9_latestThatFits_16 ?_
    refine lv_iadd X.1 X.2.1 dX9_latestThatFits_17 ?_
    obtain ⟨x_2, ex_2, h⟩ := lk_some h
    refine lv_name ex_2 ?_
    refine lv_istore (lv' := [(4, .int x_2), (0, .ref (ad 0)), (1, .int x1), (2, .int x2), (3, .int x3)]) X.1 X.2.1 dX9_latestThatFits_18 hl (by decide) rfl (fun ls hl => ?_)
    refine lv_aload_n X.1 X.2.1 dX9_latestThatFits_20 rfl (lv_at hl 1 rfl) ?_
    refine lv_iload X.1 X.2.1 dX9_latestThatFits_21 (lv_at hl 0 rfl) ?_
    refine lv_iload_n X.1 X.2.1 dX9_latestThatFits_23 rfl (lv_at hl 2 rfl) ?_
    obtain ⟨r3, hr3, h⟩ := bd_some h
    refine r_cVi (As := [.int x_2, .int x1]) (rest := []) X w lyM_0 rfl (kX9_fits  l D ca ad mem x_2 x1  hr3) (gTV tw_1054 tw_1056 tw_37 tw_75 tw_1057) hdX9_fits (by decide) rfl hl.1 rfl (Nat.le_of_ble_eq_true rfl) dX9_latestThatFits_24 ⟨Nat.zero_le _, Nat.zero_le _⟩ (fun H locs w => ?_)
    refine lv_if_eq (tgt := 61) X.1 X.2.1 dX9_latestThatFits_27 (by decide) (fun c4 => ?_) (fun c4 => ?_)
    · rw [if_pos c4] at h
      refine lv_iload_n X.1 X.2.1 dX9_latestThatFits_61 rfl (lv_at hl 3 rfl) ?_
      refine lv_istore_n (lv' := [(2, .int x2), (4, .int x_2), (0, .ref (ad 0)), (1, .int x1), (3, .int x3)]) X.1 X.2.1 dX9_latestThatFits_62 rfl hl (by decide) rfl (fun ls hl => ?_)
      refine lv_iinc (v := (x3 + (1 : Int32))) (lv' := [(3, .int (x3 + (1 : Int32))), (2, .int x2), (4, .int x_2), (0, .ref (ad 0)), (1, .int x1)]) X.1 X.2.1 dX9_latestThatFits_63 hl (k := 4) rfl rfl (by decide) rfl (fun ls hl => ?_)
      refine lv_goto (tgt := 4) X.1 X.2.1 dX9_latestThatFits_66 (by decide) ?_
      exact hk4 _ _ _ H locs ls w (lv_sub hl [3, 4, 1, 0] rfl) h
    · rw [if_neg c4] at h
      refine lv_iload_n X.1 X.2.1 dX9_latestThatFits_30 rfl (lv_at hl 3 rfl) ?_
      refine lv_if_lt (tgt := 56) X.1 X.2.1 dX9_latestThatFits_31 (by decide) (fun c5 => ?_) (fun c5 => ?_)
      · rw [if_pos c5] at h
        refine lv_iload X.1 X.2.1 dX9_latestThatFits_56 (lv_at hl 0 rfl) ?_
        refine lv_goto (tgt := 62) X.1 X.2.1 dX9_latestThatFits_58 (by decide) ?_
        refine lv_istore_n (lv' := [(2, .int x_2), (4, .int x_2), (0, .ref (ad 0)), (1, .int x1), (3, .int x3)]) X.1 X.2.1 dX9_latestThatFits_62 rfl hl (by decide) rfl (fun ls hl => ?_)
        refine lv_iinc (v := (x3 + (1 : Int32))) (lv' := [(3, .int (x3 + (1 : Int32))), (2, .int x_2), (4, .int x_2), (0, .ref (ad 0)), (1, .int x1)]) X.1 X.2.1 dX9_latestThatFits_63 hl (k := 4) rfl rfl (by decide) rfl (fun ls hl => ?_)
        refine lv_goto (tgt := 4) X.1 X.2.1 dX9_latestThatFits_66 (by decide) ?_
        exact hk4 _ _ _ H locs ls w (lv_sub hl [3, 4, 1, 0] rfl) h
      · rw [if_neg c5] at h
        refine lv_aload_n X.1 X.2.1 dX9_latestThatFits_34 rfl (lv_at hl 1 rfl) ?_
        refine r_getr (b2 := 1) X w lyM_0 rfl inT9 1 rfl rfl (by decide) rfl tw_903 dX9_latestThatFits_35 ?_
        refine lv_iload X.1 X.2.1 dX9_latestThatFits_38 (lv_at hl 0 rfl) ?_
        refine lv_bipush (v := (6 : Int32)) X.1 X.2.1 dX9_latestThatFits_40 (by decide) ?_
        refine lv_iadd X.1 X.2.1 dX9_latestThatFits_42 ?_
        obtain ⟨hi6, h⟩ := gd_some h
        refine r_iald X w lyM_1 hi6 dX9_latestThatFits_43 ?_
        refine lv_aload_n X.1 X.2.1 dX9_latestThatFits_44 rfl (lv_at hl 1 rfl) ?_
        refine r_getr (b2 := 1) X w lyM_0 rfl inT9 1 rfl rfl (by decide) rfl tw_903 dX9_latestThatFits_45 ?_
        refine lv_iload_n X.1 X.2.1 dX9_latestThatFits_48 rfl (lv_at hl 3 rfl) ?_
        refine lv_bipush (v := (6 : Int32)) X.1 X.2.1 dX9_latestThatFits_49 (by decide) ?_
        refine lv_iadd X.1 X.2.1 dX9_latestThatFits_51 ?_
        obtain ⟨hi7, h⟩ := gd_some h
        refine r_iald X w lyM_1 hi7 dX9_latestThatFits_52 ?_
        refine lv_icmp_le (tgt := 61) X.1 X.2.1 dX9_latestThatFits_53 (by decide) (fun c8 => ?_) (fun c8 => ?_)
        · rw [if_pos c8] at h
          refine lv_iload_n X.1 X.2.1 dX9_latestThatFits_61 rfl (lv_at hl 3 rfl) ?_
          refine lv_istore_n (lv' := [(2, .int x2), (4, .int x_2), (0, .ref (ad 0)), (1, .int x1), (3, .int x3)]) X.1 X.2.1 dX9_latestThatFits_62 rfl hl (by decide) rfl (fun ls hl => ?_)
          refine lv_iinc (v := (x3 + (1 : Int32))) (lv' := [(3, .int (x3 + (1 : Int32))), (2, .int x2), (4, .int x_2), (0, .ref (ad 0)), (1, .int x1)]) X.1 X.2.1 dX9_latestThatFits_63 hl (k := 4) rfl rfl (by decide) rfl (fun ls hl => ?_)
          refine lv_goto (tgt := 4) X.1 X.2.1 dX9_latestThatFits_66 (by decide) ?_
          exact hk4 _ _ _ H locs ls w (lv_sub hl [3, 4, 1, 0] rfl) h
        · rw [if_neg c8] at h
          refine lv_iload X.1 X.2.1 dX9_latestThatFits_56 (lv_at hl 0 rfl) ?_
          refine lv_goto (tgt := 62) X.1 X.2.1 dX9_latestThatFits_58 (by decide) ?_
          refine lv_istore_n (lv' := [(2, .int x_2), (4, .int x_2), (0, .ref (ad 0)), (1, .int x1), (3, .int x3)]) X.1 X.2.1 dX9_latestThatFits_62 rfl hl (by decide) rfl (fun ls hl => ?_)
          refine lv_iinc (v := (x3 + (1 : Int32))) (lv' := [(3, .int (x3 + (1 : Int32))), (2, .int x_2), (4, .int x_2), (0, .ref (ad 0)), (1, .int x1)]) X.1 X.2.1 dX9_latestThatFits_63 hl (k := 4) rfl rfl (by decide) rfl (fun ls hl => ?_)
          refine lv_goto (tgt := 4) X.1 X.2.1 dX9_latestThatFits_66 (by decide) ?_
          exact hk4 _ _ _ H locs ls w (lv_sub hl [3, 4, 1, 0] rfl) h
set_option maxRecDepth 100000 in
set_option maxHeartbeats 4000000 in
theorem wX9_latestThatFits_b4 {p : Program} {l : Launch} {e : Env} {s : State} {m : MethodId} {args : Array Value} {below : List Frame} {meth : Method} {c : Code} {D : va_G} {ca : Nat → ClassId} {ad : Nat → Nat} {mem : Mm}  {r : Int32} (X : CallFix p m c cX9_latestThatFits 5 s args TT RX9) (M : Mt meth (some .int))  : ∀ (n : Nat) (x1 : Int32) (x2 : Int32) (x3 : Int32) (H : Heap) (locs : List Loc) (ls : Array Slot)  (_ : Wd D ca ad layM (AA ad layM.length) s.heap s mem H locs) (_ : lv_has ls 5 [(0, .ref (ad 0)), (1, .int x1), (2, .int x2), (3, .int x3)]) (_ : fX9_latestThatFits_b4  n mem x1 x2 x3 = some r), W p l e (rmx 3 65) s m args below meth c H locs 0 0 (EndI D ca ad layM mem r below args s) (F0 m 4 ls []) := by
  intro n
  induction n with
  | zero => intro x1 x2 x3 H locs ls  w hl h; exact (nofun : (none : Option Int32) = _ → _) h
  | succ n ih => intro x1 x2 x3 H locs ls  w hl h; exact wX9_latestThatFits_b4_s X M  ih  w hl h
def fX9_latestThatFits (mem : Mm) (a1 : Int32) : Option Int32 :=
  fX9_latestThatFits_b4 2000 mem a1 (-1 : Int32) (0 : Int32)
set_option maxRecDepth 100000 in
set_option maxHeartbeats 4000000 in
theorem kX9_latestThatFits (l : Launch) (D : va_G) (ca : Nat → ClassId) (ad : Nat → Nat) (mem : Mm) (a1 : Int32)  {r : Int32} (h : fX9_latestThatFits mem a1 = some r) : CtI l yX9_latestThatFits cX9_latestThatFits 5 (some .int) (rmx 3 65) D ca ad layM mem [.ref (ad 0), .int a1] mem r := by
  refine CtI.of (by decide) (Nat.le_of_ble_eq_true rfl) ?_
  intro p e s m args below meth c H locs ls X M w hl
  replace X : CallFix p m c cX9_latestThatFits 5 s args TT RX9 := X
  replace hl : lv_has ls 5 [(0, .ref (ad 0)), (1, .int a1)] := hl
  unfold fX9_latestThatFits at h
  refine lv_iconst (v := (-1 : Int32)) X.1 X.2.1 dX9_latestThatFits_0 (by decide) ?_
  refine lv_istore_n (lv' := [(2, .int (-1 : Int32)), (0, .ref (ad 0)), (1, .int a1)]) X.1 X.2.1 dX9_latestThatFits_1 rfl hl (by decide) rfl (fun ls hl => ?_)
  refine lv_iconst (v := (0 : Int32)) X.1 X.2.1 dX9_latestThatFits_2 (by decide) ?_
  refine lv_istore_n (lv' := [(3, .int (0 : Int32)), (2, .int (-1 : Int32)), (0, .ref (ad 0)), (1, .int a1)]) X.1 X.2.1 dX9_latestThatFits_3 rfl hl (by decide) rfl (fun ls hl => ?_)
  exact wX9_latestThatFits_b4 X M _ _ _ _ H locs ls w (lv_sub hl [2, 3, 1, 0] rfl) h
