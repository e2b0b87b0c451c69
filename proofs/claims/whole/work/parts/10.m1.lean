/-! WalkHouseModel.thrown()I (R) -/
theorem hdX9_thrown : yX9_thrown.cls = RX9 ∧ yX9_thrown.cls ≠ "java/lang/invoke/MethodHandle" ∧ yX9_thrown.cls ≠ "java/lang/invoke/VarHandle" ∧ (parseMethodDescriptor yX9_thrown.desc).map (fun d => d.parameters.length) = some 0 := by decide +kernel
def fX9_thrown (mem : Mm)  : Option Int32 :=
  some (mem 0 0)
set_option maxRecDepth 100000 in
set_option maxHeartbeats 4000000 in
theorem kX9_thrown (l : Launch) (D : va_G) (ca : Nat → ClassId) (ad : Nat → Nat) (mem : Mm)   {r : Int32} (h : fX9_thrown mem  = some r) : CtI l yX9_thrown cX9_thrown 1 (some .int) (rmx 0 0) D ca ad layM mem [.ref (ad 0)] mem r := by
  refine CtI.of (by decide) (Nat.le_of_ble_eq_true rfl) ?_
  intro p e s m args below meth c H locs ls X M w hl
  replace X : CallFix p m c cX9_thrown 1 s args TT RX9 := X
  replace hl : lv_has ls 1 [(0, .ref (ad 0))] := hl
  unfold fX9_thrown at h
  refine lv_aload_n X.1 X.2.1 dX9_thrown_0 rfl (lv_at hl 0 rfl) ?_
  refine r_get X w lyM_0 rfl inT9 0 rfl (by decide) rfl tw_902 dX9_thrown_1 ?_
  cases h
  exact r_iret X M w dX9_thrown_4
/-! WalkHouseModel.within(III)Z (T) -/
theorem hdX9_within : yX9_within.cls ≠ "java/lang/invoke/MethodHandle" ∧ yX9_within.cls ≠ "java/lang/invoke/VarHandle" ∧ (parseMethodDescriptor yX9_within.desc).map (fun d => d.parameters.length) = some 3 := by decide +kernel
def fX9_within (a0 : Int32) (a1 : Int32) (a2 : Int32) : Int32 :=
  if a0 < a1 then (0 : Int32) else if a2 < a0 then (0 : Int32) else (1 : Int32)
set_option maxRecDepth 100000 in
set_option maxHeartbeats 4000000 in
theorem kX9_within (l : Launch) (D : va_G) (ca : Nat → ClassId) (ad : Nat → Nat) (mem : Mm) (a0 : Int32) (a1 : Int32) (a2 : Int32)  {r : Int32} (h : fX9_within a0 a1 a2 = r) : CtI l yX9_within cX9_within 3 (some .boolean) (rmx 0 0) D ca ad layM mem [.int a0, .int a1, .int a2] mem r := by
  refine CtI.of (by decide) (Nat.le_of_ble_eq_true rfl) ?_
  intro p e s m args below meth c H locs ls X M w hl
  replace X : CallFix p m c cX9_within 3 s args TT RX9 := X
  replace hl : lv_has ls 3 [(0, .int a0), (1, .int a1), (2, .int a2)] := hl
  unfold fX9_within at h
  refine lv_iload_n X.1 X.2.1 dX9_within_0 rfl (lv_at hl 0 rfl) ?_
  refine lv_iload_n X.1 X.2.1 dX9_within_1 rfl (lv_at hl 1 rfl) ?_
  refine lv_icmp_lt (tgt := 14) X.1 X.2.1 dX9_within_2 (by decide) (fun c1 => ?_) (fun c1 => ?_)
  · rw [if_pos c1] at h
    refine lv_iconst (v := (0 : Int32)) X.1 X.2.1 dX9_within_14 (by decide) ?_
    subst h
    exact r_zret X M w (by decide) dX9_within_15
  · rw [if_neg c1] at h
    refine lv_iload_n X.1 X.2.1 dX9_within_5 rfl (lv_at hl 0 rfl) ?_
    refine lv_iload_n X.1 X.2.1 dX9_within_6 rfl (lv_at hl 2 rfl) ?_
    refine lv_icmp_gt (tgt := 14) X.1 X.2.1 dX9_within_7 (by decide) (fun c2 => ?_) (fun c2 => ?_)
    · rw [if_pos c2] at h
      refine lv_iconst (v := (0 : Int32)) X.1 X.2.1 dX9_within_14 (by decide) ?_
      subst h
      exact r_zret X M w (by decide) dX9_within_15
    · rw [if_neg c2] at h
      refine lv_iconst (v := (1 : Int32)) X.1 X.2.1 dX9_within_10 (by decide) ?_
      refine lv_goto (tgt := 15) X.1 X.2.1 dX9_within_11 (by decide) ?_
      subst h
      exact r_zret X M w (by decide) dX9_within_15
theorem zX9_within (a0 : Int32) (a1 : Int32) (a2 : Int32) : fX9_within a0 a1 a2 &&& 1 = fX9_within a0 a1 a2 := by
  unfold fX9_within; (repeat' split) <;> first | decide
/-! WalkHouseModel.isEntry(II)Z (T) -/
theorem hdX9_isEntry : yX9_isEntry.cls ≠ "java/lang/invoke/MethodHandle" ∧ yX9_isEntry.cls ≠ "java/lang/invoke/VarHandle" ∧ (parseMethodDescriptor yX9_isEntry.desc).map (fun d => d.parameters.length) = some 2 := by decide +kernel
def fX9_isEntry (a0 : Int32) (a1 : Int32) : Int32 :=
  if (fX9_within a0 (0 : Int32) (11 : Int32)) = 0 then (0 : Int32) else if (fX9_within a1 (0 : Int32) (7 : Int32)) = 0 then (0 : Int32) else (1 : Int32)
set_option maxRecDepth 100000 in
set_option maxHeartbeats 4000000 in
theorem kX9_isEntry (l : Launch) (D : va_G) (ca : Nat → ClassId) (ad : Nat → Nat) (mem : Mm) (a0 : Int32) (a1 : Int32)  {r : Int32} (h : fX9_isEntry a0 a1 = r) : CtI l yX9_isEntry cX9_isEntry 2 (some .boolean) (rmx 1 22) D ca ad layM mem [.int a0, .int a1] mem r := by
  refine CtI.of (by decide) (Nat.le_of_ble_eq_true rfl) ?_
  intro p e s m args below meth c H locs ls X M w hl
  replace X : CallFix p m c cX9_isEntry 2 s args TT RX9 := X
  replace hl : lv_has ls 2 [(0, .int a0), (1, .int a1)] := hl
  unfold fX9_isEntry at h
  refine lv_iload_n X.1 X.2.1 dX9_isEntry_0 rfl (lv_at hl 0 rfl) ?_
  refine lv_iconst (v := (0 : Int32)) X.1 X.2.1 dX9_isEntry_1 (by decide) ?_
  refine lv_bipush (v := (11 : Int32)) X.1 X.2.1 dX9_isEntry_2 (by decide) ?_
  refine r_cSi (As := [.int a0, .int (0 : Int32), .int (11 : Int32)]) (rest := []) X w (kX9_within  l D ca ad mem a0 (0 : Int32) (11 : Int32)  rfl) (gTS tw_983 tw_984 tw_75 tw_985) hdX9_within (by decide) rfl hl.1 rfl (Nat.le_of_ble_eq_true rfl) dX9_isEntry_4 ⟨Nat.zero_le _, Nat.zero_le _⟩ (fun H locs w => ?_)
  refine lv_if_eq (tgt := 24) X.1 X.2.1 dX9_isEntry_7 (by decide) (fun c1 => ?_) (fun c1 => ?_)
  · rw [if_pos c1] at h
    refine lv_iconst (v := (0 : Int32)) X.1 X.2.1 dX9_isEntry_24 (by decide) ?_
    subst h
    exact r_zret X M w (by decide) dX9_isEntry_25
  · rw [if_neg c1] at h
    refine lv_iload_n X.1 X.2.1 dX9_isEntry_10 rfl (lv_at hl 1 rfl) ?_
    refine lv_iconst (v := (0 : Int32)) X.1 X.2.1 dX9_isEntry_11 (by decide) ?_
    refine lv_bipush (v := (7 : Int32)) X.1 X.2.1 dX9_isEntry_12 (by decide) ?_
    refine r_cSi (As := [.int a1, .int (0 : Int32), .int (7 : Int32)]) (rest := []) X w (kX9_within  l D ca ad mem a1 (0 : Int32) (7 : Int32)  rfl) (gTS tw_983 tw_984 tw_75 tw_985) hdX9_within (by decide) rfl hl.1 rfl (Nat.le_of_ble_eq_true rfl) dX9_isEntry_14 ⟨Nat.zero_le _, Nat.zero_le _⟩ (fun H locs w => ?_)
    refine lv_if_eq (tgt := 24) X.1 X.2.1 dX9_isEntry_17 (by decide) (fun c2 => ?_) (fun c2 => ?_)
    · rw [if_pos c2] at h
      refine lv_iconst (v := (0 : Int32)) X.1 X.2.1 dX9_isEntry_24 (by decide) ?_
      subst h
      exact r_zret X M w (by decide) dX9_isEntry_25
    · rw [if_neg c2] at h
      refine lv_iconst (v := (1 : Int32)) X.1 X.2.1 dX9_isEntry_20 (by decide) ?_
      refine lv_goto (tgt := 25) X.1 X.2.1 dX9_isEntry_21 (by decide) ?_
      subst h
      exact r_zret X M w (by decide) dX9_isEntry_25
theorem zX9_isEntry (a0 : Int32) (a1 : Int32) : fX9_isEntry a0 a1 &&& 1 = fX9_isEntry a0 a1 := by
  unfold fX9_isEntry; (repeat' split) <;> first | decide | exact zX9_within _ _ _
/-! WalkHouseModel.isSpace(I)Z (T) -/
theorem hdX9_isSpace : yX9_isSpace.cls ≠ "java/lang/invoke/MethodHandle" ∧ yX9_isSpace.cls ≠ "java/lang/invoke/VarHandle" ∧ (parseMethodDescriptor yX9_isSpace.desc).map (fun d => d.parameters.length) = some 1 := by decide +kernel
def fX9_isSpace (a0 : Int32) : Int32 :=
  (fX9_within a0 (0 : Int32) (5 : Int32))
set_option maxRecDepth 100000 in
set_option maxHeartbeats 4000000 in
theorem kX9_isSpace (l : Launch) (D : va_G) (ca : Nat → ClassId) (ad : Nat → Nat) (mem : Mm) (a0 : Int32)  {r : Int32} (h : fX9_isSpace a0 = r) : CtI l yX9_isSpace cX9_isSpace 1 (some .boolean) (rmx 1 22) D ca ad layM mem [.int a0] mem r := by
  refine CtI.of (by decide) (Nat.le_of_ble_eq_true rfl) ?_
  intro p e s m args below meth c H locs ls X M w hl
  replace X : CallFix p m c cX9_isSpace 1 s args TT RX9 := X
  replace hl : lv_has ls 1 [(0, .int a0)] := hl
  unfold fX9_isSpace at h
  refine lv_iload_n X.1 X.2.1 dX9_isSpace_0 rfl (lv_at hl 0 rfl) ?_
  refine lv_iconst (v := (0 : Int32)) X.1 X.2.1 dX9_isSpace_1 (by decide) ?_
  refine lv_iconst (v := (5 : Int32)) X.1 X.2.1 dX9_isSpace_2 (by decide) ?_
  refine r_cSi (As := [.int a0, .int (0 : Int32), .int (5 : Int32)]) (rest := []) X w (kX9_within  l D ca ad mem a0 (0 : Int32) (5 : Int32)  rfl) (gTS tw_983 tw_984 tw_75 tw_985) hdX9_within (by decide) rfl hl.1 rfl (Nat.le_of_ble_eq_true rfl) dX9_isSpace_3 ⟨Nat.zero_le _, Nat.zero_le _⟩ (fun H locs w => ?_)
  subst h
  exact r_zret X M w (zX9_within _ _ _) dX9_isSpace_6
theorem zX9_isSpace (a0 : Int32) : fX9_isSpace a0 &&& 1 = fX9_isSpace a0 := by
  unfold fX9_isSpace; (repeat' split) <;> first | decide | exact zX9_within _ _ _
/-! WalkHouseModel.isAddress(I)Z (T) -/
theorem hdX9_isAddress : yX9_isAddress.cls ≠ "java/lang/invoke/MethodHandle" ∧ yX9_isAddress.cls ≠ "java/lang/invoke/VarHandle" ∧ (parseMethodDescriptor yX9_isAddress.desc).map (fun d => d.parameters.length) = some 1 := by decide +kernel
def fX9_isAddress (a0 : Int32) : Int32 :=
  (fX9_within a0 (0 : Int32) (511 : Int32))
set_option maxRecDepth 100000 in
set_option maxHeartbeats 4000000 in
theorem kX9_isAddress (l : Launch) (D : va_G) (ca : Nat → ClassId) (ad : Nat → Nat) (mem : Mm) (a0 : Int32)  {r : Int32} (h : fX9_isAddress a0 = r) : CtI l yX9_isAddress cX9_isAddress 1 (some .boolean) (rmx 1 22) D ca ad layM mem [.int a0] mem r := by
  refine CtI.of (by decide) (Nat.le_of_ble_eq_true rfl) ?_
  intro p e s m args below meth c H locs ls X M w hl
  replace X : CallFix p m c cX9_isAddress 1 s args TT RX9 := X
  replace hl : lv_has ls 1 [(0, .int a0)] := hl
  unfold fX9_isAddress at h
  refine lv_iload_n X.1 X.2.1 dX9_isAddress_0 rfl (lv_at hl 0 rfl) ?_
  refine lv_iconst (v := (0 : Int32)) X.1 X.2.1 dX9_isAddress_1 (by decide) ?_
  refine lv_sipush (v := (511 : Int32)) X.1 X.2.1 dX9_isAddress_2 (by decide) ?_
  refine r_cSi (As := [.int a0, .int (0 : Int32), .int (511 : Int32)]) (rest := []) X w (kX9_within  l D ca ad mem a0 (0 : Int32) (511 : Int32)  rfl) (gTS tw_983 tw_984 tw_75 tw_985) hdX9_within (by decide) rfl hl.1 rfl (Nat.le_of_ble_eq_true rfl) dX9_isAddress_5 ⟨Nat.zero_le _, Nat.zero_le _⟩ (fun H locs w => ?_)
  subst h
  exact r_zret X M w (zX9_within _ _ _) dX9_isAddress_8
theorem zX9_isAddress (a0 : Int32) : fX9_isAddress a0 &&& 1 = fX9_isAddress a0 := by
  unfold fX9_isAddress; (repeat' split) <;> first | decide | exact zX9_within _ _ _
/-! WalkHouseModel.whatOf(I)I (T) -/
theorem hdX9_whatOf : yX9_whatOf.cls ≠ "java/lang/invoke/MethodHandle" ∧ yX9_whatOf.cls ≠ "java/lang/invoke/VarHandle" ∧ (parseMethodDescriptor yX9_whatOf.desc).map (fun d => d.parameters.length) = some 1 := by decide +kernel
def fX9_whatOf (a0 : Int32) : Int32 :=
  (a0 &&& (3 : Int32))
set_option maxRecDepth 100000 in
set_option maxHeartbeats 4000000 in
theorem kX9_whatOf (l : Launch) (D : va_G) (ca : Nat → ClassId) (ad : Nat → Nat) (mem : Mm) (a0 : Int32)  {r : Int32} (h : fX9_whatOf a0 = r) : CtI l yX9_whatOf cX9_whatOf 1 (some .int) (rmx 0 0) D ca ad layM mem [.int a0] mem r := by
  refine CtI.of (by decide) (Nat.le_of_ble_eq_true rfl) ?_
  intro p e s m args below meth c H locs ls X M w hl
  replace X : CallFix p m c cX9_whatOf 1 s args TT RX9 := X
  replace hl : lv_has ls 1 [(0, .int a0)] := hl
  unfold fX9_whatOf at h
  refine lv_iload_n X.1 X.2.1 dX9_whatOf_0 rfl (lv_at hl 0 rfl) ?_
  refine lv_iconst (v := (3 : Int32)) X.1 X.2.1 dX9_whatOf_1 (by decide) ?_
  refine lv_iand X.1 X.2.1 dX9_whatOf_2 ?_
  subst h
  exact r_iret X M w dX9_whatOf_3
/-! WalkHouseModel.rightsOf(I)I (T) -/
theorem hdX9_rightsOf : yX9_rightsOf.cls ≠ "java/lang/invoke/MethodHandle" ∧ yX9_rightsOf.cls ≠ "java/lang/invoke/VarHandle" ∧ (parseMethodDescriptor yX9_rightsOf.desc).map (fun d => d.parameters.length) = some 1 := by decide +kernel
def fX9_rightsOf (a0 : Int32) : Int32 :=
  ((a0 >>> ((2 : Int32) &&& 31)) &&& (15 : Int32))
set_option maxRecDepth 100000 in
set_option maxHeartbeats 4000000 in
theorem kX9_rightsOf (l : Launch) (D : va_G) (ca : Nat → ClassId) (ad : Nat → Nat) (mem : Mm) (a0 : Int32)  {r : Int32} (h : fX9_rightsOf a0 = r) : CtI l yX9_rightsOf cX9_rightsOf 1 (some .int) (rmx 0 0) D ca ad layM mem [.int a0] mem r := by
  refine CtI.of (by decide) (Nat.le_of_ble_eq_true rfl) ?_
  intro p e s m args below meth c H locs ls X M w hl
  replace X : CallFix p m c cX9_rightsOf 1 s args TT RX9 := X
  replace hl : lv_has ls 1 [(0, .int a0)] := hl
  unfold fX9_rightsOf at h
  refine lv_iload_n X.1 X.2.1 dX9_rightsOf_0 rfl (lv_at hl 0 rfl) ?_
  refine lv_iconst (v := (2 : Int32)) X.1 X.2.1 dX9_rightsOf_1 (by decide) ?_
  refine lv_ishr X.1 X.2.1 dX9_rightsOf_2 ?_
  refine lv_bipush (v := (15 : Int32)) X.1 X.2.1 dX9_rightsOf_3 (by decide) ?_
  refine lv_iand X.1 X.2.1 dX9_rightsOf_5 ?_
  subst h
  exact r_iret X M w dX9_rightsOf_6
/-! WalkHouseModel.targetOf(I)I (T) -/
theorem hdX9_targetOf : yX9_targetOf.cls ≠ "java/lang/invoke/MethodHandle" ∧ yX9_targetOf.cls ≠ "java/lang/invoke/VarHandle" ∧ (parseMethodDescriptor yX9_targetOf.desc).map (fun d => d.parameters.length) = some 1 := by decide +kernel
def fX9_targetOf (a0 : Int32) : Int32 :=
  (a0 >>> ((6 : Int32) &&& 31))
set_option maxRecDepth 100000 in
set_option maxHeartbeats 4000000 in
theorem kX9_targetOf (l : Launch) (D : va_G) (ca : Nat → ClassId) (ad : Nat → Nat) (mem : Mm) (a0 : Int32)  {r : Int32} (h : fX9_targetOf a0 = r) : CtI l yX9_targetOf cX9_targetOf 1 (some .int) (rmx 0 0) D ca ad layM mem [.int a0] mem r := by
  refine CtI.of (by decide) (Nat.le_of_ble_eq_true rfl) ?_
  intro p e s m args below meth c H locs ls X M w hl
  replace X : CallFix p m c cX9_targetOf 1 s args TT RX9 := X
  replace hl : lv_has ls 1 [(0, .int a0)] := hl
  unfold fX9_targetOf at h
  refine lv_iload_n X.1 X.2.1 dX9_targetOf_0 rfl (lv_at hl 0 rfl) ?_
  refine lv_bipush (v := (6 : Int32)) X.1 X.2.1 dX9_targetOf_1 (by decide) ?_
  refine lv_ishr X.1 X.2.1 dX9_targetOf_3 ?_
  subst h
  exact r_iret X M w dX9_targetOf_4
/-! WalkHouseModel.wide(I)I (T) -/
theorem hdX9_wide : yX9_wide.cls ≠ "java/lang/invoke/MethodHandle" ∧ yX9_wide.cls ≠ "java/lang/invoke/VarHandle" ∧ (parseMethodDescriptor yX9_wide.desc).map (fun d => d.parameters.length) = some 1 := by decide +kernel
def fX9_wide (a0 : Int32) : Int32 :=
  if a0 = (2 : Int32) then (64 : Int32) else if a0 = (1 : Int32) then (8 : Int32) else (1 : Int32)
set_option maxRecDepth 100000 in
set_option maxHeartbeats 4000000 in
theorem kX9_wide (l : Launch) (D : va_G) (ca : Nat → ClassId) (ad : Nat → Nat) (mem : Mm) (a0 : Int32)  {r : Int32} (h : fX9_wide a0 = r) : CtI l yX9_wide cX9_wide 1 (some .int) (rmx 0 0) D ca ad layM mem [.int a0] mem r := by
  refine CtI.of (by decide) (Nat.le_of_ble_eq_true rfl) ?_
  intro p e s m args below meth c H locs ls X M w hl
  replace X : CallFix p m c cX9_wide 1 s args TT RX9 := X
  replace hl : lv_has ls 1 [(0, .int a0)] := hl
  unfold fX9_wide at h
  refine lv_iload_n X.1 X.2.1 dX9_wide_0 rfl (lv_at hl 0 rfl) ?_
  refine lv_iconst (v := (2 : Int32)) X.1 X.2.1 dX9_wide_1 (by decide) ?_
  refine lv_icmp_ne (tgt := 10) X.1 X.2.1 dX9_wide_2 (by decide) (fun c1 => ?_) (fun c1 => ?_)
  · rw [if_neg c1] at h
    refine lv_iload_n X.1 X.2.1 dX9_wide_10 rfl (lv_at hl 0 rfl) ?_
    refine lv_iconst (v := (1 : Int32)) X.1 X.2.1 dX9_wide_11 (by decide) ?_
    refine lv_icmp_ne (tgt := 20) X.1 X.2.1 dX9_wide_12 (by decide) (fun c2 => ?_) (fun c2 => ?_)
    · rw [if_neg c2] at h
      refine lv_iconst (v := (1 : Int32)) X.1 X.2.1 dX9_wide_20 (by decide) ?_
      subst h
      exact r_iret X M w dX9_wide_21
    · rw [if_pos c2] at h
      refine lv_bipush (v := (8 : Int32)) X.1 X.2.1 dX9_wide_15 (by decide) ?_
      refine lv_goto (tgt := 21) X.1 X.2.1 dX9_wide_17 (by decide) ?_
      subst h
      exact r_iret X M w dX9_wide_21
  · rw [if_pos c1] at h
    refine lv_bipush (v := (64 : Int32)) X.1 X.2.1 dX9_wide_5 (by decide) ?_
    refine lv_goto (tgt := 21) X.1 X.2.1 dX9_wide_7 (by decide) ?_
    subst h
    exact r_iret X M w dX9_wide_21
/-! WalkHouseModel.place(III)I (R) -/
theorem hdX9_place : yX9_place.cls ≠ "java/lang/invoke/MethodHandle" ∧ yX9_place.cls ≠ "java/lang/invoke/VarHandle" ∧ (parseMethodDescriptor yX9_place.desc).map (fun d => d.parameters.length) = some 3 := by decide +kernel
def fX9_place (a0 : Int32) (a1 : Int32) (a2 : Int32) : Option Int32 :=
  nz (fX9_wide a2) (some (((8 : Int32) * a0) + ((a1 / (fX9_wide a2)) - (a1 / (fX9_wide a2)) / (8 : Int32) * (8 : Int32))))
set_option maxRecDepth 100000 in
set_option maxHeartbeats 4000000 in
theorem kX9_place (l : Launch) (D : va_G) (ca : Nat → ClassId) (ad : Nat → Nat) (mem : Mm) (a0 : Int32) (a1 : Int32) (a2 : Int32)  {r : Int32} (h : fX9_place a0 a1 a2 = some r) : CtI l yX9_place cX9_place 3 (some .int) (rmx 1 20) D ca ad layM mem [.int a0, .int a1, .int a2] mem r := by
  refine CtI.of (by decide) (Nat.le_of_ble_eq_true rfl) ?_
  intro p e s m args below meth c H locs ls X M w hl
  replace X : CallFix p m c cX9_place 3 s args TT RX9 := X
  replace hl : lv_has ls 3 [(0, .int a0), (1, .int a1), (2, .int a2)] := hl
  unfold fX9_place at h
  refine lv_bipush (v := (8 : Int32)) X.1 X.2.1 dX9_place_0 (by decide) ?_
  refine lv_iload_n X.1 X.2.1 dX9_place_2 rfl (lv_at hl 0 rfl) ?_
  refine lv_imul X.1 X.2.1 dX9_place_3 ?_
  refine lv_iload_n X.1 X.2.1 dX9_place_4 rfl (lv_at hl 1 rfl) ?_
  refine lv_iload_n X.1 X.2.1 dX9_place_5 rfl (lv_at hl 2 rfl) ?_
  refine r_cSi (As := [.int a2]) (rest := [.int a1, .int ((8 : Int32) * a0)]) X w (kX9_wide  l D ca ad mem a2  rfl) (gTS tw_1066 tw_1067 tw_75 tw_1068) hdX9_wide (by decide) rfl hl.1 rfl (Nat.le_of_ble_eq_true rfl) dX9_place_6 ⟨Nat.zero_le _, Nat.zero_le _⟩ (fun H locs w => ?_)
  obtain ⟨hz1, h⟩ := nz_some h
  refine lv_idiv X.1 X.2.1 dX9_place_9 hz1 ?_
  refine lv_bipush (v := (8 : Int32)) X.1 X.2.1 dX9_place_10 (by decide) ?_
  refine lv_irem X.1 X.2.1 dX9_place_12 (by decide) ?_
  refine lv_iadd X.1 X.2.1 dX9_place_13 ?_
  cases h
  exact r_iret X M w dX9_place_14
/-! WalkHouseModel.remembers(II)V (W) -/
theorem hdX9_remembers : yX9_remembers.cls = RX9 ∧ yX9_remembers.cls ≠ "java/lang/invoke/MethodHandle" ∧ yX9_remembers.cls ≠ "java/lang/invoke/VarHandle" ∧ (parseMethodDescriptor yX9_remembers.desc).map (fun d => d.parameters.length) = some 2 := by decide +kernel
def fX9_remembers_b75  (mem : Mm) (x1 : Int32) (x2 : Int32) : Option (Mm × Unit) :=
  wk mem 0 7 ((mem 0 7) + (1 : Int32)) (fun m1 => gd (m1 0 6) 40 (wk m1 3 (m1 0 6).toNatClampNeg x1 (fun m3 => gd (m3 0 6) 40 (wk m3 4 (m3 0 6).toNatClampNeg x2 (fun m5 => gd (m5 0 6) 40 (wk m5 5 (m5 0 6).toNatClampNeg (m5 0 7) (fun m7 => wk m7 0 6 ((m7 0 6) + (1 : Int32)) (fun m8 => some (m8, ())))))))))
set_option maxRecDepth 100000 in
set_option maxHeartbeats 4000000 in
theorem wX9_remembers_b75 {p : Program} {l : Launch} {e : Env} {s : State} {m : MethodId} {args : Array Value} {below : List Frame} {meth : Method} {c : Code} {D : va_G} {ca : Nat → ClassId} {ad : Nat → Nat} {H : Heap} {locs : List Loc} {ls : Array Slot} {mem : Mm} {x1 : Int32} {x2 : Int32}  {mem' : Mm} {r : Unit} (X : CallFix p m c cX9_remembers 4 s args TT RX9) (M : Mt meth none)   (w : Wd D ca ad layM (AA ad layM.length) s.heap s mem H locs) (hl : lv_has ls 4 [(0, .ref (ad 0)), (1, .int x1), (2, .int x2)]) (h : fX9_remembers_b75  mem x1 x2 = some (mem', r)) : W p l e (rmx 0 0) s m args below meth c H locs 0 0 (EndV D ca ad layM mem' below args s) (F0 m 75 ls []) := by
  unfold fX9_remembers_b75 at h
  refine lv_aload_n X.1 X.2.1 dX9_remembers_75 rfl (lv_at hl 0 rfl) ?_
  refine lv_dup X.1 X.2.1 dX9_remembers_76 rfl ?_
  refine r_get X w lyM_0 rfl inT9 7 rfl (by decide) rfl tw_909 dX9_remembers_77 ?_
  refine lv_iconst (v := (1 : Int32)) X.1 X.2.1 dX9_remembers_80 (by decide) ?_
  refine lv_iadd X.1 X.2.1 dX9_remembers_81 ?_
  refine r_put X w lyM_0 rfl inT9 tyX9 tyX9_ok nmX9 7 rfl (by decide) rfl rfl tw_909 rfl rfl dX9_remembers_82 (fun H locs w => ?_)
  obtain ⟨m1, em1, h⟩ := wk_some h
  rw [em1] at w
  refine lv_aload_n X.1 X.2.1 dX9_remembers_85 rfl (lv_at hl 0 rfl) ?_
  refine r_getr (b2 := 3) X w lyM_0 rfl inT9 3 rfl rfl (by decide) rfl tw_905 dX9_remembers_86 ?_
  refine lv_aload_n X.1 X.2.1 dX9_remembers_89 rfl (lv_at hl 0 rfl) ?_
  refine r_get X w lyM_0 rfl inT9 6 rfl (by decide) rfl tw_908 dX9_remembers_90 ?_
  refine lv_iload_n X.1 X.2.1 dX9_remembers_93 rfl (lv_at hl 1 rfl) ?_
  obtain ⟨hi2, h⟩ := gd_some h
  refine r_iast X w lyM_3 hi2 dX9_remembers_94 (fun H locs w => ?_)
  obtain ⟨m3, em3, h⟩ := wk_some h
  rw [em3] at w
  refine lv_aload_n X.1 X.2.1 dX9_remembers_95 rfl (lv_at hl 0 rfl) ?_
  refine r_getr (b2 := 4) X w lyM_0 rfl inT9 4 rfl rfl (by decide) rfl tw_906 dX9_remembers_96 ?_
  refine lv_aload_n X.1 X.2.1 dX9_remembers_99 rfl (lv_at hl 0 rfl) ?_
  refine r_get X w lyM_0 rfl inT9 6 rfl (by decide) rfl tw_908 dX9_remembers_100 ?_
  refine lv_iload_n X.1 X.2.1 dX9_remembers_103 rfl (lv_at hl 2 rfl) ?_
  obtain ⟨hi4, h⟩ := gd_some h
  refine r_iast X w lyM_4 hi4 dX9_remembers_104 (fun H locs w => ?_)
  obtain ⟨m5, em5, h⟩ := wk_some h
  rw [em5] at w
  refine lv_aload_n X.1 X.2.1 dX9_remembers_105 rfl (lv_at hl 0 rfl) ?_
  refine r_getr (b2 := 5) X w lyM_0 rfl inT9 5 rfl rfl (by decide) rfl tw_907 dX9_remembers_106 ?_
  refine lv_aload_n X.1 X.2.1 dX9_remembers_109 rfl (lv_at hl 0 rfl) ?_
  refine r_get X w lyM_0 rfl inT9 6 rfl (by decide) rfl tw_908 dX9_remembers_110 ?_
  refine lv_aload_n X.1 X.2.1 dX9_remembers_113 rfl (lv_at hl 0 rfl) ?_
  refine r_get X w lyM_0 rfl inT9 7 rfl (by decide) rfl tw_909 dX9_remembers_114 ?_
  obtain ⟨hi6, h⟩ := gd_some h
  refine r_iast X w lyM_5 hi6 dX9_remembers_117 (fun H locs w => ?_)
  obtain ⟨m7, em7, h⟩ := wk_some h
  rw [em7] at w
  refine lv_aload_n X.1 X.2.1 dX9_remembers_118 rfl (lv_at hl 0 rfl) ?_
  refine lv_dup X.1 X.2.1 dX9_remembers_119 rfl ?_
  refine r_get X w lyM_0 rfl inT9 6 rfl (by decide) rfl tw_908 dX9_remembers_120 ?_
  refine lv_iconst (v := (1 : Int32)) X.1 X.2.1 dX9_remembers_123 (by decide) ?_
  refine lv_iadd X.1 X.2.1 dX9_remembers_124 ?_
  refine r_put X w lyM_0 rfl inT9 tyX9 tyX9_ok nmX9 6 rfl (by decide) rfl rfl tw_908 rfl rfl dX9_remembers_125 (fun H locs w => ?_)
  obtain ⟨m8, em8, h⟩ := wk_some h
  rw [em8] at w
  cases h
  exact r_vret X M w dX9_remembers_128
def fX9_remembers_b11_s  (k11 : Mm → Int32 → Int32 → Int32 → Option (Mm × Unit)) (mem : Mm) (x1 : Int32) (x2 : Int32) (x3 : Int32) : Option (Mm × Unit) :=
  if (40 : Int32) ≤ x3 then wk mem 0 6 ((mem 0 6) - (1 : Int32)) (fun m2 => fX9_remembers_b75 m2 x1 x2) else gd x3 40 (gd (x3 - (1 : Int32)) 40 (wk mem 3 (x3 - (1 : Int32)).toNatClampNeg (mem 3 x3.toNatClampNeg) (fun m5 => gd x3 40 (gd (x3 - (1 : Int32)) 40 (wk m5 4 (x3 - (1 : Int32)).toNatClampNeg (m5 4 x3.toNatClampNeg) (fun m8 => gd x3 40 (gd (x3 - (1 : Int32)) 40 (wk m8 5 (x3 - (1 : Int32)).toNatClampNeg (m8 5 x3.toNatClampNeg) (fun m11 => k11 m11 x1 x2 (x3 + (1 : Int32)))))))))))
def fX9_remembers_b11  : Nat → Mm → Int32 → Int32 → Int32 → Option (Mm × Unit)
  | 0 => fun _ _ _ _ => none
  | n + 1 => fX9_remembers_b11_s  (fX9_remembers_b11  n)
set_option maxRecDepth 100000 in
set_option maxHeartbeats 4000000 in
theorem wX9_remembers_b11_s {p : Program} {l : Launch} {e : Env} {s : State} {m : MethodId} {args : Array Value} {below : List Frame} {meth : Method} {c : Code} {D : va_G} {ca : Nat → ClassId} {ad : Nat → Nat} {H : Heap} {locs : List Loc} {ls : Array Slot} {mem : Mm} {x1 : Int32} {x2 : Int32} {x3 : Int32}  {k11 : Mm → Int32 → Int32 → Int32 → Option (Mm × Unit)} {mem' : Mm} {r : Unit} (X : CallFix p m c cX9_remembers 4 s args TT RX9) (M : Mt meth none)  (hk11 : ∀ (mem : Mm) (x1 : Int32) (x2 : Int32) (x3 : Int32) (H : Heap) (locs : List Loc) (ls : Array Slot) , Wd D ca ad layM (AA ad layM.length) s.heap s mem H locs → lv_has ls 4 [(0, .ref (ad 0)), (1, .int x1), (2, .int x2), (3, .int x3)] → k11 mem x1 x2 x3 = some (mem', r) → W p l e (rmx 0 0) s m args below meth c H locs 0 0 (EndV D ca ad layM mem' below args s) (F0 m 11 ls []))  (w : Wd D ca ad layM (AA ad layM.length) s.heap s mem H locs) (hl : lv_has ls 4 [(0, .ref (ad 0)), (1, .int x1), (2, .int x2), (3, .int x3)]) (h : fX9_remembers_b11_s  k11 mem x1 x2 x3 = some (mem', r)) : W p l e (rmx 0 0) s m args below meth c H locs 0 0 (EndV D ca ad layM mem' below args s) (F0 m 11 ls []) := by
  unfold fX9_remembers_b11_s at h
  refine lv_iload_n X.1 X.2.1 dX9_remembers_11 rfl (lv_at hl 3 rfl) ?_
  refine lv_bipush (v := (40 : Int32)) X.1 X.2.1 dX9_remembers_12 (by decide) ?_
  refine lv_icmp_ge (tgt := 65) X.1 X.2.1 dX9_remembers_14 (by decide) (fun c1 => ?_) (fun c1 => ?_)
  · rw [if_pos c1] at h
    refine lv_aload_n X.1 X.2.1 dX9_remembers_65 rfl (lv_at hl 0 rfl) ?_
    refine lv_dup X.1 X.2.1 dX9_remembers_66 rfl ?_
    refine r_get X w lyM_0 rfl inT9 6 rfl (by decide) rfl tw_908 dX9_remembers_67 ?_
    refine lv_iconst (v := (1 : Int32)) X.1 X.2.1 dX9_remembers_70 (by decide) ?_
    refine lv_isub X.1 X.2.1 dX9_remembers_71 ?_
    refine r_put X w lyM_0 rfl inT9 tyX9 tyX9_ok nmX9 6 rfl (by decide) rfl rfl tw_908 rfl rfl dX9_remembers_72 (fun H locs w => ?_)
    obtain ⟨m2, em2, h⟩ := wk_some h
    rw [em2] at w
    exact wX9_remembers_b75 X M w (lv_sub hl [0, 1, 2] rfl) h
  · rw [if_neg c1] at h
    refine lv_aload_n X.1 X.2.1 dX9_remembers_17 rfl (lv_at hl 0 rfl) ?_
    refine r_getr (b2 := 3) X w lyM_0 rfl inT9 3 rfl rfl (by decide) rfl tw_905 dX9_remembers_18 ?_
    refine lv_iload_n X.1 X.2.1 dX9_remembers_21 rfl (lv_at hl 3 rfl) ?_
    refine lv_iconst (v := (1 : Int32)) X.1 X.2.1 dX9_remembers_22 (by decide) ?_
    refine lv_isub X.1 X.2.1 dX9_remembers_23 ?_
    refine lv_aload_n X.1 X.2.1 dX9_remembers_24 rfl (lv_at hl 0 rfl) ?_
    refine r_getr (b2 := 3) X w lyM_0 rfl inT9 3 rfl rfl (by decide) rfl tw_905 dX9_remembers_25 ?_
    refine lv_iload_n X.1 X.2.1 dX9_remembers_28 rfl (lv_at hl 3 rfl) ?_
    obtain ⟨hi3, h⟩ := gd_some h
    refine r_iald X w lyM_3 hi3 dX9_remembers_29 ?_
    obtain ⟨hi4, h⟩ := gd_some h
    refine r_iast X w lyM_3 hi4 dX9_remembers_30 (fun H locs w => ?_)
    obtain ⟨m5, em5, h⟩ := wk_some h
    rw [em5] at w
    refine lv_aload_n X.1 X.2.1 dX9_remembers_31 rfl (lv_at hl 0 rfl) ?_
    refine r_getr (b2 := 4) X w lyM_0 rfl inT9 4 rfl rfl (by decide) rfl tw_906 dX9_remembers_32 ?_
    refine lv_iload_n X.1 X.2.1 dX9_remembers_35 rfl (lv_at hl 3 rfl) ?_
    refine lv_iconst (v := (1 : Int32)) X.1 X.2.1 dX9_remembers_36 (by decide) ?_
    refine lv_isub X.1 X.2.1 dX9_remembers_37 ?_
    refine lv_aload_n X.1 X.2.1 dX9_remembers_38 rfl (lv_at hl 0 rfl) ?_
    refine r_getr (b2 := 4) X w lyM_0 rfl inT9 4 rfl rfl (by decide) rfl tw_906 dX9_remembers_39 ?_
    refine lv_iload_n X.1 X.2.1 dX9_remembers_42 rfl (lv_at hl 3 rfl) ?_
    obtain ⟨hi6, h⟩ := gd_some h
    refine r_iald X w lyM_4 hi6 dX9_remembers_43 ?_
    obtain ⟨hi7, h⟩ := gd_some h
    refine r_iast X w lyM_4 hi7 dX9_remembers_44 (fun H locs w => ?_)
    obtain ⟨m8, em8, h⟩ := wk_some h
    rw [em8] at w
    refine lv_aload_n X.1 X.2.1 dX9_remembers_45 rfl (lv_at hl 0 rfl) ?_
    refine r_getr (b2 := 5) X w lyM_0 rfl inT9 5 rfl rfl (by decide) rfl tw_907 dX9_remembers_46 ?_
    refine lv_iload_n X.1 X.2.1 dX9_remembers_49 rfl (lv_at hl 3 rfl) ?_
    refine lv_iconst (v := (1 : Int32)) X.1 X.2.1 dX9_remembers_50 (by decide) ?_
    refine lv_isub X.1 X.2.1 dX9_remembers_51 ?_
    refine lv_aload_n X.1 X.2.1 dX9_remembers_52 rfl (lv_at hl 0 rfl) ?_
    refine r_getr (b2 := 5) X w lyM_0 rfl inT9 5 rfl rfl (by decide) rfl tw_907 dX9_remembers_53 ?_
    refine lv_iload_n X.1 X.2.1 dX9_remembers_56 rfl (lv_at hl 3 rfl) ?_
    obtain ⟨hi9, h⟩ := gd_some h
    refine r_iald X w lyM_5 hi9 dX9_remembers_57 ?_
    obtain ⟨hi10, h⟩ := gd_some h
    refine r_iast X w lyM_5 hi10 dX9_remembers_58 (fun H locs w => ?_)
    obtain ⟨m11, em11, h⟩ := wk_some h
    rw [em11] at w
    refine lv_iinc (v := (x3 + (1 : Int32))) (lv' := [(3, .int (x3 + (1 : Int32))), (0, .ref (ad 0)), (1, .int x1), (2, .int x2)]) X.1 X.2.1 dX9_remembers_59 hl (k := 3) rfl rfl (by decide) rfl (fun ls hl => ?_)
    refine lv_goto (tgt := 11) X.1 X.2.1 dX9_remembers_62 (by decide) ?_
    exact hk11 _ _ _ _ H locs ls w (lv_sub hl [1, 2, 3, 0] rfl) h
set_option maxRecDepth 100000 in
set_option maxHeartbeats 4000000 in
theorem wX9_remembers_b11 {p : Program} {l : Launch} {e : Env} {s : State} {m : MethodId} {args : Array Value} {below : List Frame} {meth : Method} {c : Code} {D : va_G} {ca : Nat → ClassId} {ad : Nat → Nat}  {mem' : Mm} {r : Unit} (X : CallFix p m c cX9_remembers 4 s args TT RX9) (M : Mt meth none)  : ∀ (n : Nat) (mem : Mm) (x1 : Int32) (x2 : Int32) (x3 : Int32) (H : Heap) (locs : List Loc) (ls : Array Slot)  (_ : Wd D ca ad layM (AA ad layM.length) s.heap s mem H locs) (_ : lv_has ls 4 [(0, .ref (ad 0)), (1, .int x1), (2, .int x2), (3, .int x3)]) (_ : fX9_remembers_b11  n mem x1 x2 x3 = some (mem', r)), W p l e (rmx 0 0) s m args below meth c H locs 0 0 (EndV D ca ad layM mem' below args s) (F0 m 11 ls []) := by
  intro n
  induction n with
  | zero => intro mem x1 x2 x3 H locs ls  w hl h; exact (nofun : (none : Option (Mm × Unit)) = _ → _) h
  | succ n ih => intro mem x1 x2 x3 H locs ls  w hl h; exact wX9_remembers_b11_s X M  ih  w hl h
def fX9_remembers (mem : Mm) (a1 : Int32) (a2 : Int32) : Option (Mm × Unit) :=
  if (mem 0 6) = (40 : Int32) then fX9_remembers_b11 2000 mem a1 a2 (1 : Int32) else fX9_remembers_b75 mem a1 a2
set_option maxRecDepth 100000 in
set_option maxHeartbeats 4000000 in
theorem kX9_remembers (l : Launch) (D : va_G) (ca : Nat → ClassId) (ad : Nat → Nat) (mem : Mm) (a1 : Int32) (a2 : Int32)  {mem' : Mm} {r : Unit} (h : fX9_remembers mem a1 a2 = some (mem', r)) : CtV l yX9_remembers cX9_remembers 4 none (rmx 0 0) D ca ad layM mem [.ref (ad 0), .int a1, .int a2] mem' := by
  refine CtV.of (by decide) (Nat.le_of_ble_eq_true rfl) ?_
  intro p e s m args below meth c H locs ls X M w hl
  replace X : CallFix p m c cX9_remembers 4 s args TT RX9 := X
  replace hl : lv_has ls 4 [(0, .ref (ad 0)), (1, .int a1), (2, .int a2)] := hl
  unfold fX9_remembers at h
  refine lv_aload_n X.1 X.2.1 dX9_remembers_0 rfl (lv_at hl 0 rfl) ?_
  refine r_get X w lyM_0 rfl inT9 6 rfl (by decide) rfl tw_908 dX9_remembers_1 ?_
  refine lv_bipush (v := (40 : Int32)) X.1 X.2.1 dX9_remembers_4 (by decide) ?_
  refine lv_icmp_ne (tgt := 75) X.1 X.2.1 dX9_remembers_6 (by decide) (fun c1 => ?_) (fun c1 => ?_)
  · rw [if_neg c1] at h
    exact wX9_remembers_b75 X M w (lv_sub hl [0, 1, 2] rfl) h
  · rw [if_pos c1] at h
    refine lv_iconst (v := (1 : Int32)) X.1 X.2.1 dX9_remembers_9 (by decide) ?_
    refine lv_istore_n (lv' := [(3, .int (1 : Int32)), (0, .ref (ad 0)), (1, .int a1), (2, .int a2)]) X.1 X.2.1 dX9_remembers_10 rfl hl (by decide) rfl (fun ls hl => ?_)
    exact wX9_remembers_b11 X M _ _ _ _ _ H locs ls w (lv_sub hl [1, 2, 3, 0] rfl) h
/-! WalkHouseModel.entry(IIIII)I (W) -/
theorem hdX9_entry : yX9_entry.cls = RX9 ∧ yX9_entry.cls ≠ "java/lang/invoke/MethodHandle" ∧ yX9_entry.cls ≠ "java/lang/invoke/VarHandle" ∧ (parseMethodDescriptor yX9_entry.desc).map (fun d => d.parameters.length) = some 5 := by decide +kernel
def fX9_entry_b99  (mem : Mm) (x1 : Int32) (x2 : Int32) (s0 : Int32) : Option (Mm × Int32) :=
  lk (((8 : Int32) * x1) + x2) (fun x_1 => gd ((0 : Int32) + x_1) 345 (lk (mem 1 ((0 : Int32) + x_1).toNatClampNeg) (fun x_3 => if x_3 = s0 then some (mem, (fX9_whatOf x_3)) else bw (fX9_remembers mem x_1 x_3) (fun m6 r5 => gd ((0 : Int32) + x_1) 345 (wk m6 1 ((0 : Int32) + x_1).toNatClampNeg s0 (fun m8 => gd ((96 : Int32) + x_1) 345 (wk m8 1 ((96 : Int32) + x_1).toNatClampNeg (0 : Int32) (fun m10 => some (m10, (fX9_whatOf x_3))))))))))
set_option maxRecDepth 100000 in
set_option maxHeartbeats 4000000 in
theorem wX9_entry_b99 {p : Program} {l : Launch} {e : Env} {s : State} {m : MethodId} {args : Array Value} {below : List Frame} {meth : Method} {c : Code} {D : va_G} {ca : Nat → ClassId} {ad : Nat → Nat} {H : Heap} {locs : List Loc} {ls : Array Slot} {mem : Mm} {x1 : Int32} {x2 : Int32} {s0 : Int32}  {mem' : Mm} {r : Int32} (X : CallFix p m c cX9_entry 10 s args TT RX9) (M : Mt meth (some .int))   (w : Wd D ca ad layM (AA ad layM.length) s.heap s mem H locs) (hl : lv_has ls 10 [(0, .ref (ad 0)), (1, .int x1), (2, .int x2)]) (h : fX9_entry_b99  mem x1 x2 s0 = some (mem', r)) : W p l e (rmx 2 43) s m args below meth c H locs 0 0 (EndI D ca ad layM mem' r below args s) (F0 m 99 ls [.int s0]) := by
  unfold fX9_entry_b99 at h
  refine lv_istore (lv' := [(7, .int s0), (0, .ref (ad 0)), (1, .int x1), (2, .int x2)]) X.1 X.2.1 dX9_entry_99 hl (by decide) rfl (fun ls hl => ?_)
  refine lv_bipush (v := (8 : Int32)) X.1 X.2.1 dX9_entry_101 (by decide) ?_
  refine lv_iload_n X.1 X.2.1 dX9_entry_103 rfl (lv_at hl 2 rfl) ?_
  refine lv_imul X.1 X.2.1 dX9_entry_104 ?_
  refine lv_iload_n X.1 X.2.1 dX9_entry_105 rfl (lv_at hl 3 rfl) ?_
  refine lv_iadd X.1 X.2.1 dX9_entry_106 ?_
  obtain ⟨x_1, ex_1, h⟩ := lk_some h
  refine lv_name ex_1 ?_
  refine lv_istore (lv' := [(8, .int x_1), (7, .int s0), (0, .ref (ad 0)), (1, .int x1), (2, .int x2)]) X.1 X.2.1 dX9_entry_107 hl (by decide) rfl (fun ls hl => ?_)
  refine lv_aload_n X.1 X.2.1 dX9_entry_109 rfl (lv_at hl 2 rfl) ?_
  refine r_getr (b2 := 1) X w lyM_0 rfl inT9 1 rfl rfl (by decide) rfl tw_903 dX9_entry_110 ?_
  refine lv_iconst (v := (0 : Int32)) X.1 X.2.1 dX9_entry_113 (by decide) ?_
  refine lv_iload X.1 X.2.1 dX9_entry_114 (lv_at hl 0 rfl) ?_
  refine lv_iadd X.1 X.2.1 dX9_entry_116 ?_
  obtain ⟨hi2, h⟩ := gd_some h
  refine r_iald X w lyM_1 hi2 dX9_entry_117 ?_
  obtain ⟨x_3, ex_3, h⟩ := lk_some h
  refine lv_name ex_3 ?_
  refine lv_istore (lv' := [(9, .int x_3), (8, .int x_1), (7, .int s0), (0, .ref (ad 0)), (1, .int x1), (2, .int x2)]) X.1 X.2.1 dX9_entry_118 hl (by decide) rfl (fun ls hl => ?_)
  refine lv_iload X.1 X.2.1 dX9_entry_120 (lv_at hl 0 rfl) ?_
  refine lv_iload X.1 X.2.1 dX9_entry_122 (lv_at hl 2 rfl) ?_
  refine lv_icmp_eq (tgt := 157) X.1 X.2.1 dX9_entry_124 (by decide) (fun c4 => ?_) (fun c4 => ?_)
  · rw [if_pos c4] at h
    refine lv_iload X.1 X.2.1 dX9_entry_157 (lv_at hl 0 rfl) ?_
    refine r_cSi (As := [.int x_3]) (rest := []) X w (kX9_whatOf  l D ca ad mem x_3  rfl) (gTS tw_993 tw_994 tw_75 tw_995) hdX9_whatOf (by decide) rfl hl.1 rfl (Nat.le_of_ble_eq_true rfl) dX9_entry_159 ⟨Nat.zero_le _, Nat.zero_le _⟩ (fun H locs w => ?_)
    cases h
    exact r_iret X M w dX9_entry_162
  · rw [if_neg c4] at h
    refine lv_aload_n X.1 X.2.1 dX9_entry_127 rfl (lv_at hl 3 rfl) ?_
    refine lv_iload X.1 X.2.1 dX9_entry_128 (lv_at hl 1 rfl) ?_
    refine lv_iload X.1 X.2.1 dX9_entry_130 (lv_at hl 0 rfl) ?_
    obtain ⟨m6, r5, hr5, h⟩ := bw_some h
    refine r_cVv (As := [.int x_1, .int x_3]) (rest := []) X w lyM_0 rfl (kX9_remembers  l D ca ad mem x_1 x_3  hr5) (gTV tw_989 tw_991 tw_27 tw_75 tw_992) hdX9_remembers (by decide) rfl hl.1 rfl (Nat.le_of_ble_eq_true rfl) dX9_entry_132 ⟨Nat.zero_le _, Nat.zero_le _⟩ (fun H locs w => ?_)
    refine lv_aload_n X.1 X.2.1 dX9_entry_135 rfl (lv_at hl 3 rfl) ?_
    refine r_getr (b2 := 1) X w lyM_0 rfl inT9 1 rfl rfl (by decide) rfl tw_903 dX9_entry_136 ?_
    refine lv_iconst (v := (0 : Int32)) X.1 X.2.1 dX9_entry_139 (by decide) ?_
    refine lv_iload X.1 X.2.1 dX9_entry_140 (lv_at hl 1 rfl) ?_
    refine lv_iadd X.1 X.2.1 dX9_entry_142 ?_
    refine lv_iload X.1 X.2.1 dX9_entry_143 (lv_at hl 2 rfl) ?_
    obtain ⟨hi7, h⟩ := gd_some h
    refine r_iast X w lyM_1 hi7 dX9_entry_145 (fun H locs w => ?_)
    obtain ⟨m8, em8, h⟩ := wk_some h
    rw [em8] at w
    refine lv_aload_n X.1 X.2.1 dX9_entry_146 rfl (lv_at hl 3 rfl) ?_
    refine r_getr (b2 := 1) X w lyM_0 rfl inT9 1 rfl rfl (by decide) rfl tw_903 dX9_entry_147 ?_
    refine lv_bipush (v := (96 : Int32)) X.1 X.2.1 dX9_entry_150 (by decide) ?_
    refine lv_iload X.1 X.2.1 dX9_entry_152 (lv_at hl 1 rfl) ?_
    refine lv_iadd X.1 X.2.1 dX9_entry_154 ?_
    refine lv_iconst (v := (0 : Int32)) X.1 X.2.1 dX9_entry_155 (by decide) ?_
    obtain ⟨hi9, h⟩ := gd_some h
    refine r_iast X w lyM_1 hi9 dX9_entry_156 (fun H locs w => ?_)
    obtain ⟨m10, em10, h⟩ := wk_some h
    rw [em10] at w
    refine lv_iload X.1 X.2.1 dX9_entry_157 (lv_at hl 0 rfl) ?_
    refine r_cSi (As := [.int x_3]) (rest := []) X w (kX9_whatOf  l D ca ad m10 x_3  rfl) (gTS tw_993 tw_994 tw_75 tw_995) hdX9_whatOf (by decide) rfl hl.1 rfl (Nat.le_of_ble_eq_true rfl) dX9_entry_159 ⟨Nat.zero_le _, Nat.zero_le _⟩ (fun H locs w => ?_)
    cases h
    exact r_iret X M w dX9_entry_162
def fX9_entry_b79  (mem : Mm) (x1 : Int32) (x2 : Int32) (x3 : Int32) (x4 : Int32) (x5 : Int32) : Option (Mm × Int32) :=
  if x3 = 0 then fX9_entry_b99 mem x1 x2 (0 : Int32) else fX9_entry_b99 mem x1 x2 ((x3 ||| (x5 <<< ((2 : Int32) &&& 31))) ||| (x4 <<< ((6 : Int32) &&& 31)))
set_option maxRecDepth 100000 in
set_option maxHeartbeats 4000000 in
theorem wX9_entry_b79 {p : Program} {l : Launch} {e : Env} {s : State} {m : MethodId} {args : Array Value} {below : List Frame} {meth : Method} {c : Code} {D : va_G} {ca : Nat → ClassId} {ad : Nat → Nat} {H : Heap} {locs : List Loc} {ls : Array Slot} {mem : Mm} {x1 : Int32} {x2 : Int32} {x3 : Int32} {x4 : Int32} {x5 : Int32}  {mem' : Mm} {r : Int32} (X : CallFix p m c cX9_entry 10 s args TT RX9) (M : Mt meth (some .int))   (w : Wd D ca ad layM (AA ad layM.length) s.heap s mem H locs) (hl : lv_has ls 10 [(0, .ref (ad 0)), (1, .int x1), (2, .int x2), (3, .int x3), (4, .int x4), (5, .int x5)]) (h : fX9_entry_b79  mem x1 x2 x3 x4 x5 = some (mem', r)) : W p l e (rmx 2 43) s m args below meth c H locs 0 0 (EndI D ca ad layM mem' r below args s) (F0 m 79 ls []) := by
  unfold fX9_entry_b79 at h
  refine lv_iload_n X.1 X.2.1 dX9_entry_79 rfl (lv_at hl 3 rfl) ?_
  refine lv_if_ne (tgt := 87) X.1 X.2.1 dX9_entry_80 (by decide) (fun c1 => ?_) (fun c1 => ?_)
  · rw [if_neg c1] at h
    refine lv_iload_n X.1 X.2.1 dX9_entry_87 rfl (lv_at hl 3 rfl) ?_
    refine lv_iload X.1 X.2.1 dX9_entry_88 (lv_at hl 5 rfl) ?_
    refine lv_iconst (v := (2 : Int32)) X.1 X.2.1 dX9_entry_90 (by decide) ?_
    refine lv_ishl X.1 X.2.1 dX9_entry_91 ?_
    refine lv_ior X.1 X.2.1 dX9_entry_92 ?_
    refine lv_iload X.1 X.2.1 dX9_entry_93 (lv_at hl 4 rfl) ?_
    refine lv_bipush (v := (6 : Int32)) X.1 X.2.1 dX9_entry_95 (by decide) ?_
    refine lv_ishl X.1 X.2.1 dX9_entry_97 ?_
    refine lv_ior X.1 X.2.1 dX9_entry_98 ?_
    exact wX9_entry_b99 X M w (lv_sub hl [0, 1, 2] rfl) h
  · rw [if_pos c1] at h
    refine lv_iconst (v := (0 : Int32)) X.1 X.2.1 dX9_entry_83 (by decide) ?_
    refine lv_goto (tgt := 99) X.1 X.2.1 dX9_entry_84 (by decide) ?_
    exact wX9_entry_b99 X M w (lv_sub hl [0, 1, 2] rfl) h
def fX9_entry_b47  (mem : Mm) (x1 : Int32) (x2 : Int32) (x3 : Int32) (x4 : Int32) (x5 : Int32) (s0 : Int32) : Option (Mm × Int32) :=
  if (fX9_isEntry x1 x2) = 0 then some (mem, (-1 : Int32)) else if s0 = 0 then some (mem, (-1 : Int32)) else if x3 ≤ 0 then fX9_entry_b79 mem x1 x2 x3 x4 x5 else if (fX9_within x5 (0 : Int32) (15 : Int32)) = 0 then some (mem, (-1 : Int32)) else fX9_entry_b79 mem x1 x2 x3 x4 x5
set_option maxRecDepth 100000 in
set_option maxHeartbeats 4000000 in
theorem wX9_entry_b47 {p : Program} {l : Launch} {e : Env} {s : State} {m : MethodId} {args : Array Value} {below : List Frame} {meth : Method} {c : Code} {D : va_G} {ca : Nat → ClassId} {ad : Nat → Nat} {H : Heap} {locs : List Loc} {ls : Array Slot} {mem : Mm} {x1 : Int32} {x2 : Int32} {x3 : Int32} {x4 : Int32} {x5 : Int32} {s0 : Int32}  {mem' : Mm} {r : Int32} (X : CallFix p m c cX9_entry 10 s args TT RX9) (M : Mt meth (some .int))   (w : Wd D ca ad layM (AA ad layM.length) s.heap s mem H locs) (hl : lv_has ls 10 [(0, .ref (ad 0)), (1, .int x1), (2, .int x2), (3, .int x3), (4, .int x4), (5, .int x5)]) (h : fX9_entry_b47  mem x1 x2 x3 x4 x5 s0 = some (mem', r)) : W p l e (rmx 2 43) s m args below meth c H locs 0 0 (EndI D ca ad layM mem' r below args s) (F0 m 47 ls [.int s0]) := by
  unfold fX9_entry_b47 at h
  refine lv_istore (lv' := [(6, .int s0), (0, .ref (ad 0)), (1, .int x1), (2, .int x2), (3, .int x3), (4, .int x4), (5, .int x5)]) X.1 X.2.1 dX9_entry_47 hl (by decide) rfl (fun ls hl => ?_)
  refine lv_iload_n X.1 X.2.1 dX9_entry_49 rfl (lv_at hl 2 rfl) ?_
  refine lv_iload_n X.1 X.2.1 dX9_entry_50 rfl (lv_at hl 3 rfl) ?_
  refine r_cSi (As := [.int x1, .int x2]) (rest := []) X w (kX9_isEntry  l D ca ad mem x1 x2  rfl) (gTS tw_986 tw_987 tw_75 tw_988) hdX9_isEntry (by decide) rfl hl.1 rfl (Nat.le_of_ble_eq_true rfl) dX9_entry_51 ⟨Nat.zero_le _, Nat.zero_le _⟩ (fun H locs w => ?_)
  refine lv_if_eq (tgt := 77) X.1 X.2.1 dX9_entry_54 (by decide) (fun c1 => ?_) (fun c1 => ?_)
  · rw [if_pos c1] at h
    refine lv_iconst (v := (-1 : Int32)) X.1 X.2.1 dX9_entry_77 (by decide) ?_
    cases h
    exact r_iret X M w dX9_entry_78
  · rw [if_neg c1] at h
    refine lv_iload X.1 X.2.1 dX9_entry_57 (lv_at hl 0 rfl) ?_
    refine lv_if_eq (tgt := 77) X.1 X.2.1 dX9_entry_59 (by decide) (fun c2 => ?_) (fun c2 => ?_)
    · rw [if_pos c2] at h
      refine lv_iconst (v := (-1 : Int32)) X.1 X.2.1 dX9_entry_77 (by decide) ?_
      cases h
      exact r_iret X M w dX9_entry_78
    · rw [if_neg c2] at h
      refine lv_iload_n X.1 X.2.1 dX9_entry_62 rfl (lv_at hl 4 rfl) ?_
      refine lv_if_le (tgt := 79) X.1 X.2.1 dX9_entry_63 (by decide) (fun c3 => ?_) (fun c3 => ?_)
      · rw [if_pos c3] at h
        exact wX9_entry_b79 X M w (lv_sub hl [1, 2, 3, 4, 5, 6] rfl) h
      · rw [if_neg c3] at h
        refine lv_iload X.1 X.2.1 dX9_entry_66 (lv_at hl 6 rfl) ?_
        refine lv_iconst (v := (0 : Int32)) X.1 X.2.1 dX9_entry_68 (by decide) ?_
        refine lv_bipush (v := (15 : Int32)) X.1 X.2.1 dX9_entry_69 (by decide) ?_
        refine r_cSi (As := [.int x5, .int (0 : Int32), .int (15 : Int32)]) (rest := []) X w (kX9_within  l D ca ad mem x5 (0 : Int32) (15 : Int32)  rfl) (gTS tw_983 tw_984 tw_75 tw_985) hdX9_within (by decide) rfl hl.1 rfl (Nat.le_of_ble_eq_true rfl) dX9_entry_71 ⟨Nat.zero_le _, Nat.zero_le _⟩ (fun H locs w => ?_)
        refine lv_if_ne (tgt := 79) X.1 X.2.1 dX9_entry_74 (by decide) (fun c4 => ?_) (fun c4 => ?_)
        · rw [if_neg c4] at h
          exact wX9_entry_b79 X M w (lv_sub hl [1, 2, 3, 4, 5, 6] rfl) h
        · rw [if_pos c4] at h
          refine lv_iconst (v := (-1 : Int32)) X.1 X.2.1 dX9_entry_77 (by decide) ?_
          cases h
          exact r_iret X M w dX9_entry_78
def fX9_entry_b25  (mem : Mm) (x1 : Int32) (x2 : Int32) (x3 : Int32) (x4 : Int32) (x5 : Int32) : Option (Mm × Int32) :=
  if x3 = (2 : Int32) then if (fX9_within x4 (0 : Int32) (999 : Int32)) = 0 then fX9_entry_b47 mem x1 x2 x3 x4 x5 (0 : Int32) else fX9_entry_b47 mem x1 x2 x3 x4 x5 (1 : Int32) else fX9_entry_b47 mem x1 x2 x3 x4 x5 (0 : Int32)
set_option maxRecDepth 100000 in
set_option maxHeartbeats 4000000 in
theorem wX9_entry_b25 {p : Program} {l : Launch} {e : Env} {s : State} {m : MethodId} {args : Array Value} {below : List Frame} {meth : Method} {c : Code} {D : va_G} {ca : Nat → ClassId} {ad : Nat → Nat} {H : Heap} {locs : List Loc} {ls : Array Slot} {mem : Mm} {x1 : Int32} {x2 : Int32} {x3 : Int32} {x4 : Int32} {x5 : Int32}  {mem' : Mm} {r : Int32} (X : CallFix p m c cX9_entry 10 s args TT RX9) (M : Mt meth (some .int))   (w : Wd D ca ad layM (AA ad layM.length) s.heap s mem H locs) (hl : lv_has ls 10 [(0, .ref (ad 0)), (1, .int x1), (2, .int x2), (3, .int x3), (4, .int x4), (5, .int x5)]) (h : fX9_entry_b25  mem x1 x2 x3 x4 x5 = some (mem', r)) : W p l e (rmx 2 43) s m args below meth c H locs 0 0 (EndI D ca ad layM mem' r below args s) (F0 m 25 ls []) := by
  unfold fX9_entry_b25 at h
  refine lv_iload_n X.1 X.2.1 dX9_entry_25 rfl (lv_at hl 3 rfl) ?_
  refine lv_iconst (v := (2 : Int32)) X.1 X.2.1 dX9_entry_26 (by decide) ?_
  refine lv_icmp_ne (tgt := 46) X.1 X.2.1 dX9_entry_27 (by decide) (fun c1 => ?_) (fun c1 => ?_)
  · rw [if_neg c1] at h
    refine lv_iconst (v := (0 : Int32)) X.1 X.2.1 dX9_entry_46 (by decide) ?_
    exact wX9_entry_b47 X M w (lv_sub hl [0, 1, 2, 3, 4, 5] rfl) h
  · rw [if_pos c1] at h
    refine lv_iload X.1 X.2.1 dX9_entry_30 (lv_at hl 4 rfl) ?_
    refine lv_iconst (v := (0 : Int32)) X.1 X.2.1 dX9_entry_32 (by decide) ?_
    refine lv_sipush (v := (999 : Int32)) X.1 X.2.1 dX9_entry_33 (by decide) ?_
    refine r_cSi (As := [.int x4, .int (0 : Int32), .int (999 : Int32)]) (rest := []) X w (kX9_within  l D ca ad mem x4 (0 : Int32) (999 : Int32)  rfl) (gTS tw_983 tw_984 tw_75 tw_985) hdX9_within (by decide) rfl hl.1 rfl (Nat.le_of_ble_eq_true rfl) dX9_entry_36 ⟨Nat.zero_le _, Nat.zero_le _⟩ (fun H locs w => ?_)
    refine lv_if_eq (tgt := 46) X.1 X.2.1 dX9_entry_39 (by decide) (fun c2 => ?_) (fun c2 => ?_)
    · rw [if_pos c2] at h
      refine lv_iconst (v := (0 : Int32)) X.1 X.2.1 dX9_entry_46 (by decide) ?_
      exact wX9_entry_b47 X M w (lv_sub hl [0, 1, 2, 3, 4, 5] rfl) h
    · rw [if_neg c2] at h
      refine lv_iconst (v := (1 : Int32)) X.1 X.2.1 dX9_entry_42 (by decide) ?_
      refine lv_goto (tgt := 47) X.1 X.2.1 dX9_entry_43 (by decide) ?_
      exact wX9_entry_b47 X M w (lv_sub hl [0, 1, 2, 3, 4, 5] rfl) h
def fX9_entry (mem : Mm) (a1 : Int32) (a2 : Int32) (a3 : Int32) (a4 : Int32) (a5 : Int32) : Option (Mm × Int32) :=
  wk mem 0 0 (0 : Int32) (fun m1 => if a3 = 0 then fX9_entry_b47 m1 a1 a2 a3 a4 a5 (1 : Int32) else if a3 = (1 : Int32) then if (fX9_within a4 (0 : Int32) (11 : Int32)) = 0 then fX9_entry_b25 m1 a1 a2 a3 a4 a5 else fX9_entry_b47 m1 a1 a2 a3 a4 a5 (1 : Int32) else fX9_entry_b25 m1 a1 a2 a3 a4 a5)
set_option maxRecDepth 100000 in
set_option maxHeartbeats 4000000 in
theorem kX9_entry (l : Launch) (D : va_G) (ca : Nat → ClassId) (ad : Nat → Nat) (mem : Mm) (a1 : Int32) (a2 : Int32) (a3 : Int32) (a4 : Int32) (a5 : Int32)  {mem' : Mm} {r : Int32} (h : fX9_entry mem a1 a2 a3 a4 a5 = some (mem', r)) : CtI l yX9_entry cX9_entry 10 (some .int) (rmx 2 43) D ca ad layM mem [.ref (ad 0), .int a1, .int a2, .int a3, .int a4, .int a5] mem' r := by
  refine CtI.of (by decide) (Nat.le_of_ble_eq_true rfl) ?_
  intro p e s m args below meth c H locs ls X M w hl
  replace X : CallFix p m c cX9_entry 10 s args TT RX9 := X
  replace hl : lv_has ls 10 [(0, .ref (ad 0)), (1, .int a1), (2, .int a2), (3, .int a3), (4, .int a4), (5, .int a5)] := hl
  unfold fX9_entry at h
  refine lv_aload_n X.1 X.2.1 dX9_entry_0 rfl (lv_at hl 0 rfl) ?_
  refine lv_iconst (v := (0 : Int32)) X.1 X.2.1 dX9_entry_1 (by decide) ?_
  refine r_put X w lyM_0 rfl inT9 tyX9 tyX9_ok nmX9 0 rfl (by decide) rfl rfl tw_902 rfl rfl dX9_entry_2 (fun H locs w => ?_)
  obtain ⟨m1, em1, h⟩ := wk_some h
  rw [em1] at w
  refine lv_iload_n X.1 X.2.1 dX9_entry_5 rfl (lv_at hl 3 rfl) ?_
  refine lv_if_eq (tgt := 42) X.1 X.2.1 dX9_entry_6 (by decide) (fun c2 => ?_) (fun c2 => ?_)
  · rw [if_pos c2] at h
    refine lv_iconst (v := (1 : Int32)) X.1 X.2.1 dX9_entry_42 (by decide) ?_
    refine lv_goto (tgt := 47) X.1 X.2.1 dX9_entry_43 (by decide) ?_
    exact wX9_entry_b47 X M w (lv_sub hl [0, 1, 2, 3, 4, 5] rfl) h
  · rw [if_neg c2] at h
    refine lv_iload_n X.1 X.2.1 dX9_entry_9 rfl (lv_at hl 3 rfl) ?_
    refine lv_iconst (v := (1 : Int32)) X.1 X.2.1 dX9_entry_10 (by decide) ?_
    refine lv_icmp_ne (tgt := 25) X.1 X.2.1 dX9_entry_11 (by decide) (fun c3 => ?_) (fun c3 => ?_)
    · rw [if_neg c3] at h
      exact wX9_entry_b25 X M w (lv_sub hl [0, 1, 2, 3, 4, 5] rfl) h
    · rw [if_pos c3] at h
      refine lv_iload X.1 X.2.1 dX9_entry_14 (lv_at hl 4 rfl) ?_
      refine lv_iconst (v := (0 : Int32)) X.1 X.2.1 dX9_entry_16 (by decide) ?_
      refine lv_bipush (v := (11 : Int32)) X.1 X.2.1 dX9_entry_17 (by decide) ?_
      refine r_cSi (As := [.int a4, .int (0 : Int32), .int (11 : Int32)]) (rest := []) X w (kX9_within  l D ca ad m1 a4 (0 : Int32) (11 : Int32)  rfl) (gTS tw_983 tw_984 tw_75 tw_985) hdX9_within (by decide) rfl hl.1 rfl (Nat.le_of_ble_eq_true rfl) dX9_entry_19 ⟨Nat.zero_le _, Nat.zero_le _⟩ (fun H locs w => ?_)
      refine lv_if_ne (tgt := 42) X.1 X.2.1 dX9_entry_22 (by decide) (fun c4 => ?_) (fun c4 => ?_)
      · rw [if_neg c4] at h
        refine lv_iconst (v := (1 : Int32)) X.1 X.2.1 dX9_entry_42 (by decide) ?_
        refine lv_goto (tgt := 47) X.1 X.2.1 dX9_entry_43 (by decide) ?_
        exact wX9_entry_b47 X M w (lv_sub hl [0, 1, 2, 3, 4, 5] rfl) h
      · rw [if_pos c4] at h
        exact wX9_entry_b25 X M w (lv_sub hl [0, 1, 2, 3, 4, 5] rfl) h
