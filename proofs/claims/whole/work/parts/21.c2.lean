/-! WalkHouse.restOf(II)I (T) -/
theorem hdX8_restOf : yX8_restOf.cls ≠ "java/lang/invoke/MethodHandle" ∧ yX8_restOf.cls ≠ "java/lang/invoke/VarHandle" ∧ (parseMethodDescriptor yX8_restOf.desc).map (fun d => d.parameters.length) = some 2 := by decide +kernel
def fX8_restOf (a0 : Int32) (a1 : Int32) : Int32 :=
  (a0 &&& ((fX8_widthOf a1) - (1 : Int32)))
set_option maxRecDepth 100000 in
set_option maxHeartbeats 4000000 in
theorem kX8_restOf {cap : Nat} (l : Launch) (D : va_G) (ca : Nat → ClassId) (ad : Nat → Nat) (mem : Mm) (a0 : Int32) (a1 : Int32)  {r : Int32} (h : fX8_restOf a0 a1 = r) : CtI l yX8_restOf cX8_restOf 2 (some .int) (rmx 1 20) D ca ad (layC cap) mem [.int a0, .int a1] mem r := by
  refine CtI.of (by decide) (Nat.le_of_ble_eq_true rfl) ?_
  intro p e s m args below meth c H locs ls X M w hl
  replace X : CallFix p m c cX8_restOf 2 s args TT RX8 := X
  replace hl : lv_has ls 2 [(0, .int a0), (1, .int a1)] := hl
  unfold fX8_restOf at h
  refine lv_iload_n X.1 X.2.1 dX8_restOf_0 rfl (lv_at hl 0 rfl) ?_
  refine lv_iload_n X.1 X.2.1 dX8_restOf_1 rfl (lv_at hl 1 rfl) ?_
  refine r_cSi (As := [.int a1]) (rest := [.int a0]) X w (kX8_widthOf (cap := cap) l D ca ad mem a1  rfl) (gTS tw_467 tw_468 tw_65 tw_469) hdX8_widthOf (by decide) rfl hl.1 rfl (Nat.le_of_ble_eq_true rfl) dX8_restOf_2 ⟨Nat.zero_le _, Nat.zero_le _⟩ (fun H locs w => ?_)
  refine lv_iconst (v := (1 : Int32)) X.1 X.2.1 dX8_restOf_5 (by decide) ?_
  refine lv_isub X.1 X.2.1 dX8_restOf_6 ?_
  refine lv_iand X.1 X.2.1 dX8_restOf_7 ?_
  subst h
  exact r_iret X M w dX8_restOf_8
/-! WalkHouse.firstOf(II)I (T) -/
theorem hdX8_firstOf : yX8_firstOf.cls ≠ "java/lang/invoke/MethodHandle" ∧ yX8_firstOf.cls ≠ "java/lang/invoke/VarHandle" ∧ (parseMethodDescriptor yX8_firstOf.desc).map (fun d => d.parameters.length) = some 2 := by decide +kernel
def fX8_firstOf (a0 : Int32) (a1 : Int32) : Int32 :=
  (a0 - (fX8_restOf a0 a1))
set_option maxRecDepth 100000 in
set_option maxHeartbeats 4000000 in
theorem kX8_firstOf {cap : Nat} (l : Launch) (D : va_G) (ca : Nat → ClassId) (ad : Nat → Nat) (mem : Mm) (a0 : Int32) (a1 : Int32)  {r : Int32} (h : fX8_firstOf a0 a1 = r) : CtI l yX8_firstOf cX8_firstOf 2 (some .int) (rmx 2 41) D ca ad (layC cap) mem [.int a0, .int a1] mem r := by
  refine CtI.of (by decide) (Nat.le_of_ble_eq_true rfl) ?_
  intro p e s m args below meth c H locs ls X M w hl
  replace X : CallFix p m c cX8_firstOf 2 s args TT RX8 := X
  replace hl : lv_has ls 2 [(0, .int a0), (1, .int a1)] := hl
  unfold fX8_firstOf at h
  refine lv_iload_n X.1 X.2.1 dX8_firstOf_0 rfl (lv_at hl 0 rfl) ?_
  refine lv_iload_n X.1 X.2.1 dX8_firstOf_1 rfl (lv_at hl 0 rfl) ?_
  refine lv_iload_n X.1 X.2.1 dX8_firstOf_2 rfl (lv_at hl 1 rfl) ?_
  refine r_cSi (As := [.int a0, .int a1]) (rest := [.int a0]) X w (kX8_restOf (cap := cap) l D ca ad mem a0 a1  rfl) (gTS tw_464 tw_465 tw_65 tw_466) hdX8_restOf (by decide) rfl hl.1 rfl (Nat.le_of_ble_eq_true rfl) dX8_firstOf_3 ⟨Nat.zero_le _, Nat.zero_le _⟩ (fun H locs w => ?_)
  refine lv_isub X.1 X.2.1 dX8_firstOf_6 ?_
  subst h
  exact r_iret X M w dX8_firstOf_7
/-! WalkHouse$Place.has(I)Z (R) -/
theorem hdX3_has : yX3_has.cls = RX3 ∧ yX3_has.cls ≠ "java/lang/invoke/MethodHandle" ∧ yX3_has.cls ≠ "java/lang/invoke/VarHandle" ∧ (parseMethodDescriptor yX3_has.desc).map (fun d => d.parameters.length) = some 1 := by decide +kernel
def fX3_has (mem : Mm) (a0 : Nat) (a1 : Int32) : Option Int32 :=
  if (mem a0 0) = 0 then some (0 : Int32) else if (fX8_firstOf a1 (mem a0 2)) = (mem a0 3) then some (1 : Int32) else some (0 : Int32)
set_option maxRecDepth 100000 in
set_option maxHeartbeats 4000000 in
theorem kX3_has {cap : Nat} (l : Launch) (D : va_G) (ca : Nat → ClassId) (ad : Nat → Nat) (mem : Mm) (a0 : Nat) (a1 : Int32) (h0 : isPl a0) {r : Int32} (h : fX3_has mem a0 a1 = some r) : CtI l yX3_has cX3_has 2 (some .boolean) (rmx 3 62) D ca ad (layC cap) mem [.ref (ad a0), .int a1] mem r := by
  refine CtI.of (by decide) (Nat.le_of_ble_eq_true rfl) ?_
  intro p e s m args below meth c H locs ls X M w hl
  replace X : CallFix p m c cX3_has 2 s args TT RX3 := X
  replace hl : lv_has ls 2 [(0, .ref (ad a0)), (1, .int a1)] := hl
  unfold fX3_has at h
  refine lv_aload_n X.1 X.2.1 dX3_has_0 rfl (lv_at hl 0 rfl) ?_
  refine r_get X w (lyPl h0) rfl inT3 0 rfl (by decide) rfl tw_133 dX3_has_1 ?_
  refine lv_if_eq (tgt := 26) X.1 X.2.1 dX3_has_4 (by decide) (fun c1 => ?_) (fun c1 => ?_)
  · rw [if_pos c1] at h
    refine lv_iconst (v := (0 : Int32)) X.1 X.2.1 dX3_has_26 (by decide) ?_
    obtain rfl := Option.some.inj h
    exact r_zret X M w (by decide) dX3_has_27
  · rw [if_neg c1] at h
    refine lv_iload_n X.1 X.2.1 dX3_has_7 rfl (lv_at hl 1 rfl) ?_
    refine lv_aload_n X.1 X.2.1 dX3_has_8 rfl (lv_at hl 0 rfl) ?_
    refine r_get X w (lyPl h0) rfl inT3 2 rfl (by decide) rfl tw_139 dX3_has_9 ?_
    refine r_cNi (As := [.int a1, .int (mem a0 2)]) (rest := []) X w (kX8_firstOf (cap := cap) l D ca ad mem a1 (mem a0 2)  rfl) ⟨tw_463, tw_462, tw_65⟩ w.2.2.2.2.1 hdX8_firstOf (by decide) rfl hl.1 rfl (Nat.le_of_ble_eq_true rfl) dX3_has_12 ⟨Nat.zero_le _, Nat.zero_le _⟩ (fun H locs w => ?_)
    refine lv_aload_n X.1 X.2.1 dX3_has_15 rfl (lv_at hl 0 rfl) ?_
    refine r_get X w (lyPl h0) rfl inT3 3 rfl (by decide) rfl tw_142 dX3_has_16 ?_
    refine lv_icmp_ne (tgt := 26) X.1 X.2.1 dX3_has_19 (by decide) (fun c2 => ?_) (fun c2 => ?_)
    · rw [if_neg c2] at h
      refine lv_iconst (v := (0 : Int32)) X.1 X.2.1 dX3_has_26 (by decide) ?_
      obtain rfl := Option.some.inj h
      exact r_zret X M w (by decide) dX3_has_27
    · rw [if_pos c2] at h
      refine lv_iconst (v := (1 : Int32)) X.1 X.2.1 dX3_has_22 (by decide) ?_
      refine lv_goto (tgt := 27) X.1 X.2.1 dX3_has_23 (by decide) ?_
      obtain rfl := Option.some.inj h
      exact r_zret X M w (by decide) dX3_has_27
/-! WalkHouse$Place.isGlobal()Z (R) -/
theorem hdX3_isGlobal : yX3_isGlobal.cls = RX3 ∧ yX3_isGlobal.cls ≠ "java/lang/invoke/MethodHandle" ∧ yX3_isGlobal.cls ≠ "java/lang/invoke/VarHandle" ∧ (parseMethodDescriptor yX3_isGlobal.desc).map (fun d => d.parameters.length) = some 0 := by decide +kernel
def fX3_isGlobal (mem : Mm) (a0 : Nat) : Option Int32 :=
  if ((mem a0 5) &&& (8 : Int32)) = 0 then some (0 : Int32) else some (1 : Int32)
set_option maxRecDepth 100000 in
set_option maxHeartbeats 4000000 in
theorem kX3_isGlobal {cap : Nat} (l : Launch) (D : va_G) (ca : Nat → ClassId) (ad : Nat → Nat) (mem : Mm) (a0 : Nat) (h0 : isPl a0) {r : Int32} (h : fX3_isGlobal mem a0 = some r) : CtI l yX3_isGlobal cX3_isGlobal 1 (some .boolean) (rmx 0 0) D ca ad (layC cap) mem [.ref (ad a0)] mem r := by
  refine CtI.of (by decide) (Nat.le_of_ble_eq_true rfl) ?_
  intro p e s m args below meth c H locs ls X M w hl
  replace X : CallFix p m c cX3_isGlobal 1 s args TT RX3 := X
  replace hl : lv_has ls 1 [(0, .ref (ad a0))] := hl
  unfold fX3_isGlobal at h
  refine lv_aload_n X.1 X.2.1 dX3_isGlobal_0 rfl (lv_at hl 0 rfl) ?_
  refine r_get X w (lyPl h0) rfl inT3 5 rfl (by decide) rfl tw_147 dX3_isGlobal_1 ?_
  refine lv_bipush (v := (8 : Int32)) X.1 X.2.1 dX3_isGlobal_4 (by decide) ?_
  refine lv_iand X.1 X.2.1 dX3_isGlobal_6 ?_
  refine lv_if_eq (tgt := 14) X.1 X.2.1 dX3_isGlobal_7 (by decide) (fun c1 => ?_) (fun c1 => ?_)
  · rw [if_pos c1] at h
    refine lv_iconst (v := (0 : Int32)) X.1 X.2.1 dX3_isGlobal_14 (by decide) ?_
    obtain rfl := Option.some.inj h
    exact r_zret X M w (by decide) dX3_isGlobal_15
  · rw [if_neg c1] at h
    refine lv_iconst (v := (1 : Int32)) X.1 X.2.1 dX3_isGlobal_10 (by decide) ?_
    refine lv_goto (tgt := 15) X.1 X.2.1 dX3_isGlobal_11 (by decide) ?_
    obtain rfl := Option.some.inj h
    exact r_zret X M w (by decide) dX3_isGlobal_15
/-! WalkHouse$Place.serves(I)Z (R) -/
theorem hdX3_serves : yX3_serves.cls = RX3 ∧ yX3_serves.cls ≠ "java/lang/invoke/MethodHandle" ∧ yX3_serves.cls ≠ "java/lang/invoke/VarHandle" ∧ (parseMethodDescriptor yX3_serves.desc).map (fun d => d.parameters.length) = some 1 := by decide +kernel
def fX3_serves (mem : Mm) (a0 : Nat) (a1 : Int32) : Option Int32 :=
  if (a1 &&& ((mem a0 5) ^^^ (-1 : Int32))) = 0 then if (a1 &&& (1 : Int32)) = 0 then some (1 : Int32) else if (mem a0 6) = (1 : Int32) then some (1 : Int32) else some (0 : Int32) else some (0 : Int32)
set_option maxRecDepth 100000 in
set_option maxHeartbeats 4000000 in
theorem kX3_serves {cap : Nat} (l : Launch) (D : va_G) (ca : Nat → ClassId) (ad : Nat → Nat) (mem : Mm) (a0 : Nat) (a1 : Int32) (h0 : isPl a0) {r : Int32} (h : fX3_serves mem a0 a1 = some r) : CtI l yX3_serves cX3_serves 2 (some .boolean) (rmx 0 0) D ca ad (layC cap) mem [.ref (ad a0), .int a1] mem r := by
  refine CtI.of (by decide) (Nat.le_of_ble_eq_true rfl) ?_
  intro p e s m args below meth c H locs ls X M w hl
  replace X : CallFix p m c cX3_serves 2 s args TT RX3 := X
  replace hl : lv_has ls 2 [(0, .ref (ad a0)), (1, .int a1)] := hl
  unfold fX3_serves at h
  refine lv_iload_n X.1 X.2.1 dX3_serves_0 rfl (lv_at hl 1 rfl) ?_
  refine lv_aload_n X.1 X.2.1 dX3_serves_1 rfl (lv_at hl 0 rfl) ?_
  refine r_get X w (lyPl h0) rfl inT3 5 rfl (by decide) rfl tw_147 dX3_serves_2 ?_
  refine lv_iconst (v := (-1 : Int32)) X.1 X.2.1 dX3_serves_5 (by decide) ?_
  refine lv_ixor X.1 X.2.1 dX3_serves_6 ?_
  refine lv_iand X.1 X.2.1 dX3_serves_7 ?_
  refine lv_if_ne (tgt := 29) X.1 X.2.1 dX3_serves_8 (by decide) (fun c1 => ?_) (fun c1 => ?_)
  · rw [if_neg c1] at h
    refine lv_iconst (v := (0 : Int32)) X.1 X.2.1 dX3_serves_29 (by decide) ?_
    obtain rfl := Option.some.inj h
    exact r_zret X M w (by decide) dX3_serves_30
  · rw [if_pos c1] at h
    refine lv_iload_n X.1 X.2.1 dX3_serves_11 rfl (lv_at hl 1 rfl) ?_
    refine lv_iconst (v := (1 : Int32)) X.1 X.2.1 dX3_serves_12 (by decide) ?_
    refine lv_iand X.1 X.2.1 dX3_serves_13 ?_
    refine lv_if_eq (tgt := 25) X.1 X.2.1 dX3_serves_14 (by decide) (fun c2 => ?_) (fun c2 => ?_)
    · rw [if_pos c2] at h
      refine lv_iconst (v := (1 : Int32)) X.1 X.2.1 dX3_serves_25 (by decide) ?_
      refine lv_goto (tgt := 30) X.1 X.2.1 dX3_serves_26 (by decide) ?_
      obtain rfl := Option.some.inj h
      exact r_zret X M w (by decide) dX3_serves_30
    · rw [if_neg c2] at h
      refine lv_aload_n X.1 X.2.1 dX3_serves_17 rfl (lv_at hl 0 rfl) ?_
      refine r_get X w (lyPl h0) rfl inT3 6 rfl (by decide) rfl tw_149 dX3_serves_18 ?_
      refine lv_iconst (v := (1 : Int32)) X.1 X.2.1 dX3_serves_21 (by decide) ?_
      refine lv_icmp_ne (tgt := 29) X.1 X.2.1 dX3_serves_22 (by decide) (fun c3 => ?_) (fun c3 => ?_)
      · rw [if_neg c3] at h
        refine lv_iconst (v := (0 : Int32)) X.1 X.2.1 dX3_serves_29 (by decide) ?_
        obtain rfl := Option.some.inj h
        exact r_zret X M w (by decide) dX3_serves_30
      · rw [if_pos c3] at h
        refine lv_iconst (v := (1 : Int32)) X.1 X.2.1 dX3_serves_25 (by decide) ?_
        refine lv_goto (tgt := 30) X.1 X.2.1 dX3_serves_26 (by decide) ?_
        obtain rfl := Option.some.inj h
        exact r_zret X M w (by decide) dX3_serves_30
/-! WalkHouse$Place.frameAt(I)I (R) -/
theorem hdX3_frameAt : yX3_frameAt.cls = RX3 ∧ yX3_frameAt.cls ≠ "java/lang/invoke/MethodHandle" ∧ yX3_frameAt.cls ≠ "java/lang/invoke/VarHandle" ∧ (parseMethodDescriptor yX3_frameAt.desc).map (fun d => d.parameters.length) = some 1 := by decide +kernel
def fX3_frameAt (mem : Mm) (a0 : Nat) (a1 : Int32) : Option Int32 :=
  some ((mem a0 4) + (fX8_restOf a1 (mem a0 2)))
set_option maxRecDepth 100000 in
set_option maxHeartbeats 4000000 in
theorem kX3_frameAt {cap : Nat} (l : Launch) (D : va_G) (ca : Nat → ClassId) (ad : Nat → Nat) (mem : Mm) (a0 : Nat) (a1 : Int32) (h0 : isPl a0) {r : Int32} (h : fX3_frameAt mem a0 a1 = some r) : CtI l yX3_frameAt cX3_frameAt 2 (some .int) (rmx 2 41) D ca ad (layC cap) mem [.ref (ad a0), .int a1] mem r := by
  refine CtI.of (by decide) (Nat.le_of_ble_eq_true rfl) ?_
  intro p e s m args below meth c H locs ls X M w hl
  replace X : CallFix p m c cX3_frameAt 2 s args TT RX3 := X
  replace hl : lv_has ls 2 [(0, .ref (ad a0)), (1, .int a1)] := hl
  unfold fX3_frameAt at h
  refine lv_aload_n X.1 X.2.1 dX3_frameAt_0 rfl (lv_at hl 0 rfl) ?_
  refine r_get X w (lyPl h0) rfl inT3 4 rfl (by decide) rfl tw_145 dX3_frameAt_1 ?_
  refine lv_iload_n X.1 X.2.1 dX3_frameAt_4 rfl (lv_at hl 1 rfl) ?_
  refine lv_aload_n X.1 X.2.1 dX3_frameAt_5 rfl (lv_at hl 0 rfl) ?_
  refine r_get X w (lyPl h0) rfl inT3 2 rfl (by decide) rfl tw_139 dX3_frameAt_6 ?_
  refine r_cNi (As := [.int a1, .int (mem a0 2)]) (rest := [.int (mem a0 4)]) X w (kX8_restOf (cap := cap) l D ca ad mem a1 (mem a0 2)  rfl) ⟨tw_466, tw_465, tw_65⟩ w.2.2.2.2.2.1 hdX8_restOf (by decide) rfl hl.1 rfl (Nat.le_of_ble_eq_true rfl) dX3_frameAt_9 ⟨Nat.zero_le _, Nat.zero_le _⟩ (fun H locs w => ?_)
  refine lv_iadd X.1 X.2.1 dX3_frameAt_12 ?_
  obtain rfl := Option.some.inj h
  exact r_iret X M w dX3_frameAt_13
/-! WalkHouse$Place.told(I)I (R) -/
theorem hdX3_told : yX3_told.cls = RX3 ∧ yX3_told.cls ≠ "java/lang/invoke/MethodHandle" ∧ yX3_told.cls ≠ "java/lang/invoke/VarHandle" ∧ (parseMethodDescriptor yX3_told.desc).map (fun d => d.parameters.length) = some 1 := by decide +kernel
def fX3_told (mem : Mm) (a0 : Nat) (a1 : Int32) : Option Int32 :=
  if a1 = (0 : Int32) then some (mem a0 1) else if a1 = (1 : Int32) then some (mem a0 2) else if a1 = (2 : Int32) then some (mem a0 3) else if a1 = (3 : Int32) then some (mem a0 4) else some (mem a0 5)
set_option maxRecDepth 100000 in
set_option maxHeartbeats 4000000 in
theorem kX3_told {cap : Nat} (l : Launch) (D : va_G) (ca : Nat → ClassId) (ad : Nat → Nat) (mem : Mm) (a0 : Nat) (a1 : Int32) (h0 : isPl a0) {r : Int32} (h : fX3_told mem a0 a1 = some r) : CtI l yX3_told cX3_told 2 (some .int) (rmx 0 0) D ca ad (layC cap) mem [.ref (ad a0), .int a1] mem r := by
  refine CtI.of (by decide) (Nat.le_of_ble_eq_true rfl) ?_
  intro p e s m args below meth c H locs ls X M w hl
  replace X : CallFix p m c cX3_told 2 s args TT RX3 := X
  replace hl : lv_has ls 2 [(0, .ref (ad a0)), (1, .int a1)] := hl
  unfold fX3_told at h
  refine lv_iload_n X.1 X.2.1 dX3_told_0 rfl (lv_at hl 1 rfl) ?_
  by_cases c1 : a1 = (0 : Int32)
  · rw [if_pos c1] at h
    refine lv_tableIn (tgt := 32) X.1 X.2.1 dX3_told_1 (by rw [c1]; decide) (by rw [c1]; decide) (by rw [c1]; rfl) (by decide) ?_
    refine lv_aload_n X.1 X.2.1 dX3_told_32 rfl (lv_at hl 0 rfl) ?_
    refine r_get X w (lyPl h0) rfl inT3 1 rfl (by decide) rfl tw_137 dX3_told_33 ?_
    obtain rfl := Option.some.inj h
    exact r_iret X M w dX3_told_36
  rw [if_neg c1] at h
  by_cases c2 : a1 = (1 : Int32)
  · rw [if_pos c2] at h
    refine lv_tableIn (tgt := 37) X.1 X.2.1 dX3_told_1 (by rw [c2]; decide) (by rw [c2]; decide) (by rw [c2]; rfl) (by decide) ?_
    refine lv_aload_n X.1 X.2.1 dX3_told_37 rfl (lv_at hl 0 rfl) ?_
    refine r_get X w (lyPl h0) rfl inT3 2 rfl (by decide) rfl tw_139 dX3_told_38 ?_
    obtain rfl := Option.some.inj h
    exact r_iret X M w dX3_told_41
  rw [if_neg c2] at h
  by_cases c3 : a1 = (2 : Int32)
  · rw [if_pos c3] at h
    refine lv_tableIn (tgt := 42) X.1 X.2.1 dX3_told_1 (by rw [c3]; decide) (by rw [c3]; decide) (by rw [c3]; rfl) (by decide) ?_
    refine lv_aload_n X.1 X.2.1 dX3_told_42 rfl (lv_at hl 0 rfl) ?_
    refine r_get X w (lyPl h0) rfl inT3 3 rfl (by decide) rfl tw_142 dX3_told_43 ?_
    obtain rfl := Option.some.inj h
    exact r_iret X M w dX3_told_46
  rw [if_neg c3] at h
  by_cases c4 : a1 = (3 : Int32)
  · rw [if_pos c4] at h
    refine lv_tableIn (tgt := 47) X.1 X.2.1 dX3_told_1 (by rw [c4]; decide) (by rw [c4]; decide) (by rw [c4]; rfl) (by decide) ?_
    refine lv_aload_n X.1 X.2.1 dX3_told_47 rfl (lv_at hl 0 rfl) ?_
    refine r_get X w (lyPl h0) rfl inT3 4 rfl (by decide) rfl tw_145 dX3_told_48 ?_
    obtain rfl := Option.some.inj h
    exact r_iret X M w dX3_told_51
  rw [if_neg c4] at h
  refine lv_tableOut (tgt := 52) X.1 X.2.1 dX3_told_1 (sw_out 0 3 [(0 : Int32), (1 : Int32), (2 : Int32), (3 : Int32)] (fun z h1 h2 => by rcases (show z = 0 ∨ z = 1 ∨ z = 2 ∨ z = 3 by omega) with rfl | rfl | rfl | rfl <;> decide) (by simp only [List.mem_cons, List.not_mem_nil, or_false, forall_eq_or_imp, forall_eq]; exact ⟨c1, c2, c3, c4⟩)) (by decide) ?_
  refine lv_aload_n X.1 X.2.1 dX3_told_52 rfl (lv_at hl 0 rfl) ?_
  refine r_get X w (lyPl h0) rfl inT3 5 rfl (by decide) rfl tw_147 dX3_told_53 ?_
  obtain rfl := Option.some.inj h
  exact r_iret X M w dX3_told_56
/-! WalkHouse$Spaces.tagNow()I (R) -/
theorem hdX4_tagNow : yX4_tagNow.cls = RX4 ∧ yX4_tagNow.cls ≠ "java/lang/invoke/MethodHandle" ∧ yX4_tagNow.cls ≠ "java/lang/invoke/VarHandle" ∧ (parseMethodDescriptor yX4_tagNow.desc).map (fun d => d.parameters.length) = some 0 := by decide +kernel
def fX4_tagNow (mem : Mm)  : Option Int32 :=
  if (mem 3 4) = (-1 : Int32) then some (-1 : Int32) else gd (mem 3 4) 6 (some (mem 5 (mem 3 4).toNatClampNeg))
set_option maxRecDepth 100000 in
set_option maxHeartbeats 4000000 in
theorem kX4_tagNow {cap : Nat} (l : Launch) (D : va_G) (ca : Nat → ClassId) (ad : Nat → Nat) (mem : Mm)   {r : Int32} (h : fX4_tagNow mem  = some r) : CtI l yX4_tagNow cX4_tagNow 1 (some .int) (rmx 0 0) D ca ad (layC cap) mem [.ref (ad 3)] mem r := by
  refine CtI.of (by decide) (Nat.le_of_ble_eq_true rfl) ?_
  intro p e s m args below meth c H locs ls X M w hl
  replace X : CallFix p m c cX4_tagNow 1 s args TT RX4 := X
  replace hl : lv_has ls 1 [(0, .ref (ad 3))] := hl
  unfold fX4_tagNow at h
  refine lv_aload_n X.1 X.2.1 dX4_tagNow_0 rfl (lv_at hl 0 rfl) ?_
  refine r_get X w lyC_3 rfl inT4 4 rfl (by decide) rfl tw_106 dX4_tagNow_1 ?_
  refine lv_iconst (v := (-1 : Int32)) X.1 X.2.1 dX4_tagNow_4 (by decide) ?_
  refine lv_icmp_ne (tgt := 12) X.1 X.2.1 dX4_tagNow_5 (by decide) (fun c1 => ?_) (fun c1 => ?_)
  · rw [if_neg c1] at h
    refine lv_aload_n X.1 X.2.1 dX4_tagNow_12 rfl (lv_at hl 0 rfl) ?_
    refine r_getr (b2 := 5) X w lyC_3 rfl inT4 1 rfl rfl (by decide) rfl tw_102 dX4_tagNow_13 ?_
    refine lv_aload_n X.1 X.2.1 dX4_tagNow_16 rfl (lv_at hl 0 rfl) ?_
    refine r_get X w lyC_3 rfl inT4 4 rfl (by decide) rfl tw_106 dX4_tagNow_17 ?_
    obtain ⟨hi2, h⟩ := gd_some h
    refine r_iald X w lyC_5 hi2 dX4_tagNow_20 ?_
    obtain rfl := Option.some.inj h
    exact r_iret X M w dX4_tagNow_21
  · rw [if_pos c1] at h
    refine lv_iconst (v := (-1 : Int32)) X.1 X.2.1 dX4_tagNow_8 (by decide) ?_
    refine lv_goto (tgt := 21) X.1 X.2.1 dX4_tagNow_9 (by decide) ?_
    obtain rfl := Option.some.inj h
    exact r_iret X M w dX4_tagNow_21
/-! WalkHouse$Spaces.rootNow()I (R) -/
theorem hdX4_rootNow : yX4_rootNow.cls = RX4 ∧ yX4_rootNow.cls ≠ "java/lang/invoke/MethodHandle" ∧ yX4_rootNow.cls ≠ "java/lang/invoke/VarHandle" ∧ (parseMethodDescriptor yX4_rootNow.desc).map (fun d => d.parameters.length) = some 0 := by decide +kernel
def fX4_rootNow (mem : Mm)  : Option Int32 :=
  if (mem 3 4) = (-1 : Int32) then some (-1 : Int32) else gd (mem 3 4) 6 (some (mem 4 (mem 3 4).toNatClampNeg))
set_option maxRecDepth 100000 in
set_option maxHeartbeats 4000000 in
theorem kX4_rootNow {cap : Nat} (l : Launch) (D : va_G) (ca : Nat → ClassId) (ad : Nat → Nat) (mem : Mm)   {r : Int32} (h : fX4_rootNow mem  = some r) : CtI l yX4_rootNow cX4_rootNow 1 (some .int) (rmx 0 0) D ca ad (layC cap) mem [.ref (ad 3)] mem r := by
  refine CtI.of (by decide) (Nat.le_of_ble_eq_true rfl) ?_
  intro p e s m args below meth c H locs ls X M w hl
  replace X : CallFix p m c cX4_rootNow 1 s args TT RX4 := X
  replace hl : lv_has ls 1 [(0, .ref (ad 3))] := hl
  unfold fX4_rootNow at h
  refine lv_aload_n X.1 X.2.1 dX4_rootNow_0 rfl (lv_at hl 0 rfl) ?_
  refine r_get X w lyC_3 rfl inT4 4 rfl (by decide) rfl tw_106 dX4_rootNow_1 ?_
  refine lv_iconst (v := (-1 : Int32)) X.1 X.2.1 dX4_rootNow_4 (by decide) ?_
  refine lv_icmp_ne (tgt := 12) X.1 X.2.1 dX4_rootNow_5 (by decide) (fun c1 => ?_) (fun c1 => ?_)
  · rw [if_neg c1] at h
    refine lv_aload_n X.1 X.2.1 dX4_rootNow_12 rfl (lv_at hl 0 rfl) ?_
    refine r_getr (b2 := 4) X w lyC_3 rfl inT4 0 rfl rfl (by decide) rfl tw_100 dX4_rootNow_13 ?_
    refine lv_aload_n X.1 X.2.1 dX4_rootNow_16 rfl (lv_at hl 0 rfl) ?_
    refine r_get X w lyC_3 rfl inT4 4 rfl (by decide) rfl tw_106 dX4_rootNow_17 ?_
    obtain ⟨hi2, h⟩ := gd_some h
    refine r_iald X w lyC_4 hi2 dX4_rootNow_20 ?_
    obtain rfl := Option.some.inj h
    exact r_iret X M w dX4_rootNow_21
  · rw [if_pos c1] at h
    refine lv_iconst (v := (-1 : Int32)) X.1 X.2.1 dX4_rootNow_8 (by decide) ?_
    refine lv_goto (tgt := 21) X.1 X.2.1 dX4_rootNow_9 (by decide) ?_
    obtain rfl := Option.some.inj h
    exact r_iret X M w dX4_rootNow_21
/-! WalkHouse$Spaces.enter(I)V (W) -/
theorem hdX4_enter : yX4_enter.cls = RX4 ∧ yX4_enter.cls ≠ "java/lang/invoke/MethodHandle" ∧ yX4_enter.cls ≠ "java/lang/invoke/VarHandle" ∧ (parseMethodDescriptor yX4_enter.desc).map (fun d => d.parameters.length) = some 1 := by decide +kernel
def fX4_enter (mem : Mm) (a1 : Int32) : Option (Mm × Unit) :=
  if (mem 3 4) = (-1 : Int32) then wk mem 3 4 a1 (fun m2 => some (m2, ())) else if (mem 3 4) = a1 then wk mem 3 4 a1 (fun m4 => some (m4, ())) else wk mem 3 3 ((mem 3 3) + (1 : Int32)) (fun m5 => gd (m5 3 4) 6 (wk m5 6 (m5 3 4).toNatClampNeg (m5 3 3) (fun m7 => wk m7 3 4 a1 (fun m8 => some (m8, ())))))
set_option maxRecDepth 100000 in
set_option maxHeartbeats 4000000 in
theorem kX4_enter {cap : Nat} (l : Launch) (D : va_G) (ca : Nat → ClassId) (ad : Nat → Nat) (mem : Mm) (a1 : Int32)  {mem' : Mm} {r : Unit} (h : fX4_enter mem a1 = some (mem', r)) : CtV l yX4_enter cX4_enter 2 none (rmx 0 0) D ca ad (layC cap) mem [.ref (ad 3), .int a1] mem' := by
  refine CtV.of (by decide) (Nat.le_of_ble_eq_true rfl) ?_
  intro p e s m args below meth c H locs ls X M w hl
  replace X : CallFix p m c cX4_enter 2 s args TT RX4 := X
  replace hl : lv_has ls 2 [(0, .ref (ad 3)), (1, .int a1)] := hl
  unfold fX4_enter at h
  refine lv_aload_n X.1 X.2.1 dX4_enter_0 rfl (lv_at hl 0 rfl) ?_
  refine r_get X w lyC_3 rfl inT4 4 rfl (by decide) rfl tw_106 dX4_enter_1 ?_
  refine lv_iconst (v := (-1 : Int32)) X.1 X.2.1 dX4_enter_4 (by decide) ?_
  refine lv_icmp_eq (tgt := 39) X.1 X.2.1 dX4_enter_5 (by decide) (fun c1 => ?_) (fun c1 => ?_)
  · rw [if_pos c1] at h
    refine lv_aload_n X.1 X.2.1 dX4_enter_39 rfl (lv_at hl 0 rfl) ?_
    refine lv_iload_n X.1 X.2.1 dX4_enter_40 rfl (lv_at hl 1 rfl) ?_
    refine r_put X w lyC_3 rfl inT4 tyX4 tyX4_ok nmX4 4 rfl (by decide) rfl rfl tw_106 rfl rfl dX4_enter_41 (fun H locs w => ?_)
    obtain ⟨m2, em2, h⟩ := wk_some h
    rw [em2] at w
    obtain ⟨rfl, -⟩ := Prod.mk.inj (Option.some.inj h)
    exact r_vret X M w dX4_enter_44
  · rw [if_neg c1] at h
    refine lv_aload_n X.1 X.2.1 dX4_enter_8 rfl (lv_at hl 0 rfl) ?_
    refine r_get X w lyC_3 rfl inT4 4 rfl (by decide) rfl tw_106 dX4_enter_9 ?_
    refine lv_iload_n X.1 X.2.1 dX4_enter_12 rfl (lv_at hl 1 rfl) ?_
    refine lv_icmp_eq (tgt := 39) X.1 X.2.1 dX4_enter_13 (by decide) (fun c3 => ?_) (fun c3 => ?_)
    · rw [if_pos c3] at h
      refine lv_aload_n X.1 X.2.1 dX4_enter_39 rfl (lv_at hl 0 rfl) ?_
      refine lv_iload_n X.1 X.2.1 dX4_enter_40 rfl (lv_at hl 1 rfl) ?_
      refine r_put X w lyC_3 rfl inT4 tyX4 tyX4_ok nmX4 4 rfl (by decide) rfl rfl tw_106 rfl rfl dX4_enter_41 (fun H locs w => ?_)
      obtain ⟨m4, em4, h⟩ := wk_some h
      rw [em4] at w
      obtain ⟨rfl, -⟩ := Prod.mk.inj (Option.some.inj h)
      exact r_vret X M w dX4_enter_44
    · rw [if_neg c3] at h
      refine lv_aload_n X.1 X.2.1 dX4_enter_16 rfl (lv_at hl 0 rfl) ?_
      refine lv_dup X.1 X.2.1 dX4_enter_17 rfl ?_
      refine r_get X w lyC_3 rfl inT4 3 rfl (by decide) rfl tw_105 dX4_enter_18 ?_
      refine lv_iconst (v := (1 : Int32)) X.1 X.2.1 dX4_enter_21 (by decide) ?_
      refine lv_iadd X.1 X.2.1 dX4_enter_22 ?_
      refine r_put X w lyC_3 rfl inT4 tyX4 tyX4_ok nmX4 3 rfl (by decide) rfl rfl tw_105 rfl rfl dX4_enter_23 (fun H locs w => ?_)
      obtain ⟨m5, em5, h⟩ := wk_some h
      rw [em5] at w
      refine lv_aload_n X.1 X.2.1 dX4_enter_26 rfl (lv_at hl 0 rfl) ?_
      refine r_getr (b2 := 6) X w lyC_3 rfl inT4 2 rfl rfl (by decide) rfl tw_104 dX4_enter_27 ?_
      refine lv_aload_n X.1 X.2.1 dX4_enter_30 rfl (lv_at hl 0 rfl) ?_
      refine r_get X w lyC_3 rfl inT4 4 rfl (by decide) rfl tw_106 dX4_enter_31 ?_
      refine lv_aload_n X.1 X.2.1 dX4_enter_34 rfl (lv_at hl 0 rfl) ?_
      refine r_get X w lyC_3 rfl inT4 3 rfl (by decide) rfl tw_105 dX4_enter_35 ?_
      obtain ⟨hi6, h⟩ := gd_some h
      refine r_iast X w lyC_6 hi6 dX4_enter_38 (fun H locs w => ?_)
      obtain ⟨m7, em7, h⟩ := wk_some h
      rw [em7] at w
      refine lv_aload_n X.1 X.2.1 dX4_enter_39 rfl (lv_at hl 0 rfl) ?_
      refine lv_iload_n X.1 X.2.1 dX4_enter_40 rfl (lv_at hl 1 rfl) ?_
      refine r_put X w lyC_3 rfl inT4 tyX4 tyX4_ok nmX4 4 rfl (by decide) rfl rfl tw_106 rfl rfl dX4_enter_41 (fun H locs w => ?_)
      obtain ⟨m8, em8, h⟩ := wk_some h
      rw [em8] at w
      obtain ⟨rfl, -⟩ := Prod.mk.inj (Option.some.inj h)
      exact r_vret X M w dX4_enter_44
/-! WalkHouse$Spaces.holderOf(I)I (R) -/
theorem hdX4_holderOf : yX4_holderOf.cls = RX4 ∧ yX4_holderOf.cls ≠ "java/lang/invoke/MethodHandle" ∧ yX4_holderOf.cls ≠ "java/lang/invoke/VarHandle" ∧ (parseMethodDescriptor yX4_holderOf.desc).map (fun d => d.parameters.length) = some 1 := by decide +kernel
def fX4_holderOf_b2_s  (k2 : Mm → Int32 → Int32 → Option Int32) (mem : Mm) (x1 : Int32) (x2 : Int32) : Option Int32 :=
  if (6 : Int32) ≤ x2 then some (-1 : Int32) else gd x2 6 (if (mem 5 x2.toNatClampNeg) = x1 then some x2 else k2 mem x1 (x2 + (1 : Int32)))
def fX4_holderOf_b2  : Nat → Mm → Int32 → Int32 → Option Int32
  | 0 => fun _ _ _ => none
  | n + 1 => fX4_holderOf_b2_s  (fX4_holderOf_b2  n)
set_option maxRecDepth 100000 in
set_option maxHeartbeats 4000000 in
theorem wX4_holderOf_b2_s {p : Program} {l : Launch} {e : Env} {s : State} {m : MethodId} {args : Array Value} {below : List Frame} {meth : Method} {c : Code} {D : va_G} {ca : Nat → ClassId} {ad : Nat → Nat} {cap : Nat} {H : Heap} {locs : List Loc} {ls : Array Slot} {mem : Mm} {x1 : Int32} {x2 : Int32}  {k2 : Mm → Int32 → Int32 → Option Int32} {r : Int32} (X : CallFix p m c cX4_holderOf 3 s args TT RX4) (M : Mt meth (some .int))  (hk2 : ∀ (x1 : Int32) (x2 : Int32) (H : Heap) (locs : List Loc) (ls : Array Slot) , Wd D ca ad (layC cap) (AA ad (layC cap).length) s.heap s mem H locs → lv_has ls 3 [(0, .ref (ad 3)), (1, .int x1), (2, .int x2)] → k2 mem x1 x2 = some r → W p l e (rmx 0 0) s m args below meth c H locs 0 0 (EndI D ca ad (layC cap) mem r below args s) (F0 m 2 ls []))  (w : Wd D ca ad (layC cap) (AA ad (layC cap).length) s.heap s mem H locs) (hl : lv_has ls 3 [(0, .ref (ad 3)), (1, .int x1), (2, .int x2)]) (h : fX4_holderOf_b2_s  k2 mem x1 x2 = some r) : W p l e (rmx 0 0) s m args below meth c H locs 0 0 (EndI D ca ad (layC cap) mem r below args s) (F0 m 2 ls []) := by
  unfold fX4_holderOf_b2_s at h
  refine lv_iload_n X.1 X.2.1 dX4_holderOf_2 rfl (lv_at hl 2 rfl) ?_
  refine lv_bipush (v := (6 : Int32)) X.1 X.2.1 dX4_holderOf_3 (by decide) ?_
  refine lv_icmp_ge (tgt := 26) X.1 X.2.1 dX4_holderOf_5 (by decide) (fun c1 => ?_) (fun c1 => ?_)
  · rw [if_pos c1] at h
    refine lv_iconst (v := (-1 : Int32)) X.1 X.2.1 dX4_holderOf_26 (by decide) ?_
    obtain rfl := Option.some.inj h
    exact r_iret X M w dX4_holderOf_27
  · rw [if_neg c1] at h
    refine lv_aload_n X.1 X.2.1 dX4_holderOf_8 rfl (lv_at hl 0 rfl) ?_
    refine r_getr (b2 := 5) X w lyC_3 rfl inT4 1 rfl rfl (by decide) rfl tw_102 dX4_holderOf_9 ?_
    refine lv_iload_n X.1 X.2.1 dX4_holderOf_12 rfl (lv_at hl 2 rfl) ?_
    obtain ⟨hi2, h⟩ := gd_some h
    refine r_iald X w lyC_5 hi2 dX4_holderOf_13 ?_
    refine lv_iload_n X.1 X.2.1 dX4_holderOf_14 rfl (lv_at hl 1 rfl) ?_
    refine lv_icmp_ne (tgt := 20) X.1 X.2.1 dX4_holderOf_15 (by decide) (fun c3 => ?_) (fun c3 => ?_)
    · rw [if_neg c3] at h
      refine lv_iinc (v := (x2 + (1 : Int32))) (lv' := [(2, .int (x2 + (1 : Int32))), (0, .ref (ad 3)), (1, .int x1)]) X.1 X.2.1 dX4_holderOf_20 hl (k := 2) rfl rfl (by decide) rfl (fun ls hl => ?_)
      refine lv_goto (tgt := 2) X.1 X.2.1 dX4_holderOf_23 (by decide) ?_
      exact hk2 _ _ H locs ls w (lv_sub hl [1, 2, 0] rfl) h
    · rw [if_pos c3] at h
      refine lv_iload_n X.1 X.2.1 dX4_holderOf_18 rfl (lv_at hl 2 rfl) ?_
      obtain rfl := Option.some.inj h
      exact r_iret X M w dX4_holderOf_19
set_option maxRecDepth 100000 in
set_option maxHeartbeats 4000000 in
theorem wX4_holderOf_b2 {p : Program} {l : Launch} {e : Env} {s : State} {m : MethodId} {args : Array Value} {below : List Frame} {meth : Method} {c : Code} {D : va_G} {ca : Nat → ClassId} {ad : Nat → Nat} {cap : Nat} {mem : Mm}  {r : Int32} (X : CallFix p m c cX4_holderOf 3 s args TT RX4) (M : Mt meth (some .int))  : ∀ (n : Nat) (x1 : Int32) (x2 : Int32) (H : Heap) (locs : List Loc) (ls : Array Slot)  (_ : Wd D ca ad (layC cap) (AA ad (layC cap).length) s.heap s mem H locs) (_ : lv_has ls 3 [(0, .ref (ad 3)), (1, .int x1), (2, .int x2)]) (_ : fX4_holderOf_b2  n mem x1 x2 = some r), W p l e (rmx 0 0) s m args below meth c H locs 0 0 (EndI D ca ad (layC cap) mem r below args s) (F0 m 2 ls []) := by
  intro n
  induction n with
  | zero => intro x1 x2 H locs ls  w hl h; exact (nofun : (none : Option Int32) = _ → _) h
  | succ n ih => intro x1 x2 H locs ls  w hl h; exact wX4_holderOf_b2_s X M  ih  w hl h
def fX4_holderOf (mem : Mm) (a1 : Int32) : Option Int32 :=
  fX4_holderOf_b2 2000 mem a1 (0 : Int32)
set_option maxRecDepth 100000 in
set_option maxHeartbeats 4000000 in
theorem kX4_holderOf {cap : Nat} (l : Launch) (D : va_G) (ca : Nat → ClassId) (ad : Nat → Nat) (mem : Mm) (a1 : Int32)  {r : Int32} (h : fX4_holderOf mem a1 = some r) : CtI l yX4_holderOf cX4_holderOf 3 (some .int) (rmx 0 0) D ca ad (layC cap) mem [.ref (ad 3), .int a1] mem r := by
  refine CtI.of (by decide) (Nat.le_of_ble_eq_true rfl) ?_
  intro p e s m args below meth c H locs ls X M w hl
  replace X : CallFix p m c cX4_holderOf 3 s args TT RX4 := X
  replace hl : lv_has ls 3 [(0, .ref (ad 3)), (1, .int a1)] := hl
  unfold fX4_holderOf at h
  refine lv_iconst (v := (0 : Int32)) X.1 X.2.1 dX4_holderOf_0 (by decide) ?_
  refine lv_istore_n (lv' := [(2, .int (0 : Int32)), (0, .ref (ad 3)), (1, .int a1)]) X.1 X.2.1 dX4_holderOf_1 rfl hl (by decide) rfl (fun ls hl => ?_)
  exact wX4_holderOf_b2 X M _ _ _ H locs ls w (lv_sub hl [1, 2, 0] rfl) h
/-! WalkHouse$Spaces.leastFreeTag()I (R) -/
theorem hdX4_leastFreeTag : yX4_leastFreeTag.cls = RX4 ∧ yX4_leastFreeTag.cls ≠ "java/lang/invoke/MethodHandle" ∧ yX4_leastFreeTag.cls ≠ "java/lang/invoke/VarHandle" ∧ (parseMethodDescriptor yX4_leastFreeTag.desc).map (fun d => d.parameters.length) = some 0 := by decide +kernel
def fX4_leastFreeTag_b2_s  (k2 : Mm → Int32 → Option Int32) (mem : Mm) (x1 : Int32) : Option Int32 :=
  if (3 : Int32) ≤ x1 then some (-1 : Int32) else bd (fX4_holderOf mem x1) (fun r2 => if r2 = (-1 : Int32) then some x1 else k2 mem (x1 + (1 : Int32)))
def fX4_leastFreeTag_b2  : Nat → Mm → Int32 → Option Int32
  | 0 => fun _ _ => none
  | n + 1 => fX4_leastFreeTag_b2_s  (fX4_leastFreeTag_b2  n)
set_option maxRecDepth 100000 in
set_option maxHeartbeats 4000000 in
theorem wX4_leastFreeTag_b2_s {p : Program} {l : Launch} {e : Env} {s : State} {m : MethodId} {args : Array Value} {below : List Frame} {meth : Method} {c : Code} {D : va_G} {ca : Nat → ClassId} {ad : Nat → Nat} {cap : Nat} {H : Heap} {locs : List Loc} {ls : Array Slot} {mem : Mm} {x1 : Int32}  {k2 : Mm → Int32 → Option Int32} {r : Int32} (X : CallFix p m c cX4_leastFreeTag 2 s args TT RX4) (M : Mt meth (some .int))  (hk2 : ∀ (x1 : Int32) (H : Heap) (locs : List Loc) (ls : Array Slot) , Wd D ca ad (layC cap) (AA ad (layC cap).length) s.heap s mem H locs → lv_has ls 2 [(0, .ref (ad 3)), (1, .int x1)] → k2 mem x1 = some r → W p l e (rmx 1 22) s m args below meth c H locs 0 0 (EndI D ca ad (layC cap) mem r below args s) (F0 m 2 ls []))  (w : Wd D ca ad (layC cap) (AA ad (layC cap).length) s.heap s mem H locs) (hl : lv_has ls 2 [(0, .ref (ad 3)), (1, .int x1)]) (h : fX4_leastFreeTag_b2_s  k2 mem x1 = some r) : W p l e (rmx 1 22) s m args below meth c H locs 0 0 (EndI D ca ad (layC cap) mem r below args s) (F0 m 2 ls []) := by
  unfold fX4_leastFreeTag_b2_s at h
  refine lv_iload_n X.1 X.2.1 dX4_leastFreeTag_2 rfl (lv_at hl 1 rfl) ?_
  refine lv_iconst (v := (3 : Int32)) X.1 X.2.1 dX4_leastFreeTag_3 (by decide) ?_
  refine lv_icmp_ge (tgt := 24) X.1 X.2.1 dX4_leastFreeTag_4 (by decide) (fun c1 => ?_) (fun c1 => ?_)
  · rw [if_pos c1] at h
    refine lv_iconst (v := (-1 : Int32)) X.1 X.2.1 dX4_leastFreeTag_24 (by decide) ?_
    obtain rfl := Option.some.inj h
    exact r_iret X M w dX4_leastFreeTag_25
  · rw [if_neg c1] at h
    refine lv_aload_n X.1 X.2.1 dX4_leastFreeTag_7 rfl (lv_at hl 0 rfl) ?_
    refine lv_iload_n X.1 X.2.1 dX4_leastFreeTag_8 rfl (lv_at hl 1 rfl) ?_
    obtain ⟨r2, hr2, h⟩ := bd_some h
    refine r_cVi (As := [.int x1]) (rest := []) X w lyC_3 rfl (kX4_holderOf (cap := cap) l D ca ad mem x1  hr2) (gTV tw_410 tw_411 tw_412 tw_66 tw_413) hdX4_holderOf (by decide) rfl hl.1 rfl (Nat.le_of_ble_eq_true rfl) dX4_leastFreeTag_9 ⟨Nat.zero_le _, Nat.zero_le _⟩ (fun H locs w => ?_)
    refine lv_iconst (v := (-1 : Int32)) X.1 X.2.1 dX4_leastFreeTag_12 (by decide) ?_
    refine lv_icmp_ne (tgt := 18) X.1 X.2.1 dX4_leastFreeTag_13 (by decide) (fun c3 => ?_) (fun c3 => ?_)
    · rw [if_neg c3] at h
      refine lv_iinc (v := (x1 + (1 : Int32))) (lv' := [(1, .int (x1 + (1 : Int32))), (0, .ref (ad 3))]) X.1 X.2.1 dX4_leastFreeTag_18 hl (k := 1) rfl rfl (by decide) rfl (fun ls hl => ?_)
      refine lv_goto (tgt := 2) X.1 X.2.1 dX4_leastFreeTag_21 (by decide) ?_
      exact hk2 _ H locs ls w (lv_sub hl [1, 0] rfl) h
    · rw [if_pos c3] at h
      refine lv_iload_n X.1 X.2.1 dX4_leastFreeTag_16 rfl (lv_at hl 1 rfl) ?_
      obtain rfl := Option.some.inj h
      exact r_iret X M w dX4_leastFreeTag_17
set_option maxRecDepth 100000 in
set_option maxHeartbeats 4000000 in
theorem wX4_leastFreeTag_b2 {p : Program} {l : Launch} {e : Env} {s : State} {m : MethodId} {args : Array Value} {below : List Frame} {meth : Method} {c : Code} {D : va_G} {ca : Nat → ClassId} {ad : Nat → Nat} {cap : Nat} {mem : Mm}  {r : Int32} (X : CallFix p m c cX4_leastFreeTag 2 s args TT RX4) (M : Mt meth (some .int))  : ∀ (n : Nat) (x1 : Int32) (H : Heap) (locs : List Loc) (ls : Array Slot)  (_ : Wd D ca ad (layC cap) (AA ad (layC cap).length) s.heap s mem H locs) (_ : lv_has ls 2 [(0, .ref (ad 3)), (1, .int x1)]) (_ : fX4_leastFreeTag_b2  n mem x1 = some r), W p l e (rmx 1 22) s m args below meth c H locs 0 0 (EndI D ca ad (layC cap) mem r below args s) (F0 m 2 ls []) := by
  intro n
  induction n with
  | zero => intro x1 H locs ls  w hl h; exact (nofun : (none : Option Int32) = _ → _) h
  | succ n ih => intro x1 H locs ls  w hl h; exact wX4_leastFreeTag_b2_s X M  ih  w hl h
def fX4_leastFreeTag (mem : Mm)  : Option Int32 :=
  fX4_leastFreeTag_b2 2000 mem (0 : Int32)
set_option maxRecDepth 100000 in
set_option maxHeartbeats 4000000 in
theorem kX4_leastFreeTag {cap : Nat} (l : Launch) (D : va_G) (ca : Nat → ClassId) (ad : Nat → Nat) (mem : Mm)   {r : Int32} (h : fX4_leastFreeTag mem  = some r) : CtI l yX4_leastFreeTag cX4_leastFreeTag 2 (some .int) (rmx 1 22) D ca ad (layC cap) mem [.ref (ad 3)] mem r := by
  refine CtI.of (by decide) (Nat.le_of_ble_eq_true rfl) ?_
  intro p e s m args below meth c H locs ls X M w hl
  replace X : CallFix p m c cX4_leastFreeTag 2 s args TT RX4 := X
  replace hl : lv_has ls 2 [(0, .ref (ad 3))] := hl
  unfold fX4_leastFreeTag at h
  refine lv_iconst (v := (0 : Int32)) X.1 X.2.1 dX4_leastFreeTag_0 (by decide) ?_
  refine lv_istore_n (lv' := [(1, .int (0 : Int32)), (0, .ref (ad 3))]) X.1 X.2.1 dX4_leastFreeTag_1 rfl hl (by decide) rfl (fun ls hl => ?_)
  exact wX4_leastFreeTag_b2 X M _ _ H locs ls w (lv_sub hl [1, 0] rfl) h
/-! WalkHouse$Spaces.takeOldestTag()I (W) -/
theorem hdX4_takeOldestTag : yX4_takeOldestTag.cls = RX4 ∧ yX4_takeOldestTag.cls ≠ "java/lang/invoke/MethodHandle" ∧ yX4_takeOldestTag.cls ≠ "java/lang/invoke/VarHandle" ∧ (parseMethodDescriptor yX4_takeOldestTag.desc).map (fun d => d.parameters.length) = some 0 := by decide +kernel
def fX4_takeOldestTag_b33 (k4 : Mm → Int32 → Int32 → Option (Mm × Int32)) (mem : Mm) (x1 : Int32) (x2 : Int32) (s0 : Int32) : Option (Mm × Int32) :=
  if s0 = 0 then k4 mem x1 (x2 + (1 : Int32)) else if x1 = (-1 : Int32) then k4 mem x2 (x2 + (1 : Int32)) else gd x2 6 (gd x1 6 (if (mem 6 x1.toNatClampNeg) ≤ (mem 6 x2.toNatClampNeg) then k4 mem x1 (x2 + (1 : Int32)) else k4 mem x2 (x2 + (1 : Int32))))
set_option maxRecDepth 100000 in
set_option maxHeartbeats 4000000 in
theorem wX4_takeOldestTag_b33 {p : Program} {l : Launch} {e : Env} {s : State} {m : MethodId} {args : Array Value} {below : List Frame} {meth : Method} {c : Code} {D : va_G} {ca : Nat → ClassId} {ad : Nat → Nat} {cap : Nat} {H : Heap} {locs : List Loc} {ls : Array Slot} {mem : Mm} {x1 : Int32} {x2 : Int32} {s0 : Int32} {k4 : Mm → Int32 → Int32 → Option (Mm × Int32)} {mem' : Mm} {r : Int32} (X : CallFix p m c cX4_takeOldestTag 4 s args TT RX4) (M : Mt meth (some .int)) (hk4 : ∀ (mem : Mm) (x1 : Int32) (x2 : Int32) (H : Heap) (locs : List Loc) (ls : Array Slot) , Wd D ca ad (layC cap) (AA ad (layC cap).length) s.heap s mem H locs → lv_has ls 4 [(0, .ref (ad 3)), (1, .int x1), (2, .int x2)] → k4 mem x1 x2 = some (mem', r) → W p l e (rmx 0 0) s m args below meth c H locs 0 0 (EndI D ca ad (layC cap) mem' r below args s) (F0 m 4 ls []))  (w : Wd D ca ad (layC cap) (AA ad (layC cap).length) s.heap s mem H locs) (hl : lv_has ls 4 [(0, .ref (ad 3)), (1, .int x1), (2, .int x2)]) (h : fX4_takeOldestTag_b33 k4 mem x1 x2 s0 = some (mem', r)) : W p l e (rmx 0 0) s m args below meth c H locs 0 0 (EndI D ca ad (layC cap) mem' r below args s) (F0 m 33 ls [.int s0]) := by
  unfold fX4_takeOldestTag_b33 at h
  refine lv_istore_n (lv' := [(3, .int s0), (0, .ref (ad 3)), (1, .int x1), (2, .int x2)]) X.1 X.2.1 dX4_takeOldestTag_33 rfl hl (by decide) rfl (fun ls hl => ?_)
  refine lv_iload_n X.1 X.2.1 dX4_takeOldestTag_34 rfl (lv_at hl 0 rfl) ?_
  refine lv_if_eq (tgt := 60) X.1 X.2.1 dX4_takeOldestTag_35 (by decide) (fun c1 => ?_) (fun c1 => ?_)
  · rw [if_pos c1] at h
    refine lv_iinc (v := (x2 + (1 : Int32))) (lv' := [(2, .int (x2 + (1 : Int32))), (3, .int s0), (0, .ref (ad 3)), (1, .int x1)]) X.1 X.2.1 dX4_takeOldestTag_60 hl (k := 3) rfl rfl (by decide) rfl (fun ls hl => ?_)
    refine lv_goto (tgt := 4) X.1 X.2.1 dX4_takeOldestTag_63 (by decide) ?_
    exact hk4 _ _ _ H locs ls w (lv_sub hl [2, 3, 0] rfl) h
  · rw [if_neg c1] at h
    refine lv_iload_n X.1 X.2.1 dX4_takeOldestTag_38 rfl (lv_at hl 2 rfl) ?_
    refine lv_iconst (v := (-1 : Int32)) X.1 X.2.1 dX4_takeOldestTag_39 (by decide) ?_
    refine lv_icmp_eq (tgt := 58) X.1 X.2.1 dX4_takeOldestTag_40 (by decide) (fun c2 => ?_) (fun c2 => ?_)
    · rw [if_pos c2] at h
      refine lv_iload_n X.1 X.2.1 dX4_takeOldestTag_58 rfl (lv_at hl 3 rfl) ?_
      refine lv_istore_n (lv' := [(1, .int x2), (3, .int s0), (0, .ref (ad 3)), (2, .int x2)]) X.1 X.2.1 dX4_takeOldestTag_59 rfl hl (by decide) rfl (fun ls hl => ?_)
      refine lv_iinc (v := (x2 + (1 : Int32))) (lv' := [(2, .int (x2 + (1 : Int32))), (1, .int x2), (3, .int s0), (0, .ref (ad 3))]) X.1 X.2.1 dX4_takeOldestTag_60 hl (k := 3) rfl rfl (by decide) rfl (fun ls hl => ?_)
      refine lv_goto (tgt := 4) X.1 X.2.1 dX4_takeOldestTag_63 (by decide) ?_
      exact hk4 _ _ _ H locs ls w (lv_sub hl [3, 1, 0] rfl) h
    · rw [if_neg c2] at h
      refine lv_aload_n X.1 X.2.1 dX4_takeOldestTag_43 rfl (lv_at hl 1 rfl) ?_
      refine r_getr (b2 := 6) X w lyC_3 rfl inT4 2 rfl rfl (by decide) rfl tw_104 dX4_takeOldestTag_44 ?_
      refine lv_iload_n X.1 X.2.1 dX4_takeOldestTag_47 rfl (lv_at hl 3 rfl) ?_
      obtain ⟨hi3, h⟩ := gd_some h
      refine r_iald X w lyC_6 hi3 dX4_takeOldestTag_48 ?_
      refine lv_aload_n X.1 X.2.1 dX4_takeOldestTag_49 rfl (lv_at hl 1 rfl) ?_
      refine r_getr (b2 := 6) X w lyC_3 rfl inT4 2 rfl rfl (by decide) rfl tw_104 dX4_takeOldestTag_50 ?_
      refine lv_iload_n X.1 X.2.1 dX4_takeOldestTag_53 rfl (lv_at hl 2 rfl) ?_
      obtain ⟨hi4, h⟩ := gd_some h
      refine r_iald X w lyC_6 hi4 dX4_takeOldestTag_54 ?_
      refine lv_icmp_ge (tgt := 60) X.1 X.2.1 dX4_takeOldestTag_55 (by decide) (fun c5 => ?_) (fun c5 => ?_)
      · rw [if_pos c5] at h
        refine lv_iinc (v := (x2 + (1 : Int32))) (lv' := [(2, .int (x2 + (1 : Int32))), (3, .int s0), (0, .ref (ad 3)), (1, .int x1)]) X.1 X.2.1 dX4_takeOldestTag_60 hl (k := 3) rfl rfl (by decide) rfl (fun ls hl => ?_)
        refine lv_goto (tgt := 4) X.1 X.2.1 dX4_takeOldestTag_63 (by decide) ?_
        exact hk4 _ _ _ H locs ls w (lv_sub hl [2, 3, 0] rfl) h
      · rw [if_neg c5] at h
        refine lv_iload_n X.1 X.2.1 dX4_takeOldestTag_58 rfl (lv_at hl 3 rfl) ?_
        refine lv_istore_n (lv' := [(1, .int x2), (3, .int s0), (0, .ref (ad 3)), (2, .int x2)]) X.1 X.2.1 dX4_takeOldestTag_59 rfl hl (by decide) rfl (fun ls hl => ?_)
        refine lv_iinc (v := (x2 + (1 : Int32))) (lv' := [(2, .int (x2 + (1 : Int32))), (1, .int x2), (3, .int s0), (0, .ref (ad 3))]) X.1 X.2.1 dX4_takeOldestTag_60 hl (k := 3) rfl rfl (by decide) rfl (fun ls hl => ?_)
        refine lv_goto (tgt := 4) X.1 X.2.1 dX4_takeOldestTag_63 (by decide) ?_
        exact hk4 _ _ _ H locs ls w (lv_sub hl [3, 1, 0] rfl) h
def fX4_takeOldestTag_b4_s  (k4 : Mm → Int32 → Int32 → Option (Mm × Int32)) (mem : Mm) (x1 : Int32) (x2 : Int32) : Option (Mm × Int32) :=
  if (6 : Int32) ≤ x2 then if x1 = (-1 : Int32) then some (mem, (-1 : Int32)) else gd x1 6 (lk (mem 5 x1.toNatClampNeg) (fun x_4 => gd x1 6 (wk mem 5 x1.toNatClampNeg (-1 : Int32) (fun m6 => some (m6, x_4))))) else gd x2 6 (if (mem 5 x2.toNatClampNeg) = (-1 : Int32) then fX4_takeOldestTag_b33 k4 mem x1 x2 (0 : Int32) else if x2 = (mem 3 4) then fX4_takeOldestTag_b33 k4 mem x1 x2 (0 : Int32) else fX4_takeOldestTag_b33 k4 mem x1 x2 (1 : Int32))
def fX4_takeOldestTag_b4  : Nat → Mm → Int32 → Int32 → Option (Mm × Int32)
  | 0 => fun _ _ _ => none
  | n + 1 => fX4_takeOldestTag_b4_s  (fX4_takeOldestTag_b4  n)
set_option maxRecDepth 100000 in
set_option maxHeartbeats 4000000 in
theorem wX4_takeOldestTag_b4_s {p : Program} {l : Launch} {e : Env} {s : State} {m : MethodId} {args : Array Value} {below : List Frame} {meth : Method} {c : Code} {D : va_G} {ca : Nat → ClassId} {ad : Nat → Nat} {cap : Nat} {H : Heap} {locs : List Loc} {ls : Array Slot} {mem : Mm} {x1 : Int32} {x2 : Int32}  {k4 : Mm → Int32 → Int32 → Option (Mm × Int32)} {mem' : Mm} {r : Int32} (X : CallFix p m c cX4_takeOldestTag 4 s args TT RX4) (M : Mt meth (some .int))  (hk4 : ∀ (mem : Mm) (x1 : Int32) (x2 : Int32) (H : Heap) (locs : List Loc) (ls : Array Slot) , Wd D ca ad (layC cap) (AA ad (layC cap).length) s.heap s mem H locs → lv_has ls 4 [(0, .ref (ad 3)), (1, .int x1), (2, .int x2)] → k4 mem x1 x2 = some (mem', r) → W p l e (rmx 0 0) s m args below meth c H locs 0 0 (EndI D ca ad (layC cap) mem' r below args s) (F0 m 4 ls []))  (w : Wd D ca ad (layC cap) (AA ad (layC cap).length) s.heap s mem H locs) (hl : lv_has ls 4 [(0, .ref (ad 3)), (1, .int x1), (2, .int x2)]) (h : fX4_takeOldestTag_b4_s  k4 mem x1 x2 = some (mem', r)) : W p l e (rmx 0 0) s m args below meth c H locs 0 0 (EndI D ca ad (layC cap) mem' r below args s) (F0 m 4 ls []) := by
  unfold fX4_takeOldestTag_b4_s at h
  refine lv_iload_n X.1 X.2.1 dX4_takeOldestTag_4 rfl (lv_at hl 2 rfl) ?_
  refine lv_bipush (v := (6 : Int32)) X.1 X.2.1 dX4_takeOldestTag_5 (by decide) ?_
  refine lv_icmp_ge (tgt := 66) X.1 X.2.1 dX4_takeOldestTag_7 (by decide) (fun c1 => ?_) (fun c1 => ?_)
  · rw [if_pos c1] at h
    refine lv_iload_n X.1 X.2.1 dX4_takeOldestTag_66 rfl (lv_at hl 1 rfl) ?_
    refine lv_iconst (v := (-1 : Int32)) X.1 X.2.1 dX4_takeOldestTag_67 (by decide) ?_
    refine lv_icmp_ne (tgt := 73) X.1 X.2.1 dX4_takeOldestTag_68 (by decide) (fun c2 => ?_) (fun c2 => ?_)
    · rw [if_neg c2] at h
      refine lv_aload_n X.1 X.2.1 dX4_takeOldestTag_73 rfl (lv_at hl 0 rfl) ?_
      refine r_getr (b2 := 5) X w lyC_3 rfl inT4 1 rfl rfl (by decide) rfl tw_102 dX4_takeOldestTag_74 ?_
      refine lv_iload_n X.1 X.2.1 dX4_takeOldestTag_77 rfl (lv_at hl 1 rfl) ?_
      obtain ⟨hi3, h⟩ := gd_some h
      refine r_iald X w lyC_5 hi3 dX4_takeOldestTag_78 ?_
      obtain ⟨x_4, ex_4, h⟩ := lk_some h
      refine lv_name ex_4 ?_
      refine lv_istore_n (lv' := [(2, .int x_4), (0, .ref (ad 3)), (1, .int x1)]) X.1 X.2.1 dX4_takeOldestTag_79 rfl hl (by decide) rfl (fun ls hl => ?_)
      refine lv_aload_n X.1 X.2.1 dX4_takeOldestTag_80 rfl (lv_at hl 1 rfl) ?_
      refine r_getr (b2 := 5) X w lyC_3 rfl inT4 1 rfl rfl (by decide) rfl tw_102 dX4_takeOldestTag_81 ?_
      refine lv_iload_n X.1 X.2.1 dX4_takeOldestTag_84 rfl (lv_at hl 2 rfl) ?_
      refine lv_iconst (v := (-1 : Int32)) X.1 X.2.1 dX4_takeOldestTag_85 (by decide) ?_
      obtain ⟨hi5, h⟩ := gd_some h
      refine r_iast X w lyC_5 hi5 dX4_takeOldestTag_86 (fun H locs w => ?_)
      obtain ⟨m6, em6, h⟩ := wk_some h
      rw [em6] at w
      refine lv_iload_n X.1 X.2.1 dX4_takeOldestTag_87 rfl (lv_at hl 0 rfl) ?_
      obtain ⟨rfl, rfl⟩ := Prod.mk.inj (Option.some.inj h)
      exact r_iret X M w dX4_takeOldestTag_88
    · rw [if_pos c2] at h
      refine lv_iconst (v := (-1 : Int32)) X.1 X.2.1 dX4_takeOldestTag_71 (by decide) ?_
      obtain ⟨rfl, rfl⟩ := Prod.mk.inj (Option.some.inj h)
      exact r_iret X M w dX4_takeOldestTag_72
  · rw [if_neg c1] at h
    refine lv_aload_n X.1 X.2.1 dX4_takeOldestTag_10 rfl (lv_at hl 0 rfl) ?_
    refine r_getr (b2 := 5) X w lyC_3 rfl inT4 1 rfl rfl (by decide) rfl tw_102 dX4_takeOldestTag_11 ?_
    refine lv_iload_n X.1 X.2.1 dX4_takeOldestTag_14 rfl (lv_at hl 2 rfl) ?_
    obtain ⟨hi7, h⟩ := gd_some h
    refine r_iald X w lyC_5 hi7 dX4_takeOldestTag_15 ?_
    refine lv_iconst (v := (-1 : Int32)) X.1 X.2.1 dX4_takeOldestTag_16 (by decide) ?_
    refine lv_icmp_eq (tgt := 32) X.1 X.2.1 dX4_takeOldestTag_17 (by decide) (fun c8 => ?_) (fun c8 => ?_)
    · rw [if_pos c8] at h
      refine lv_iconst (v := (0 : Int32)) X.1 X.2.1 dX4_takeOldestTag_32 (by decide) ?_
      exact wX4_takeOldestTag_b33 X M hk4 w (lv_sub hl [0, 1, 2] rfl) h
    · rw [if_neg c8] at h
      refine lv_iload_n X.1 X.2.1 dX4_takeOldestTag_20 rfl (lv_at hl 2 rfl) ?_
      refine lv_aload_n X.1 X.2.1 dX4_takeOldestTag_21 rfl (lv_at hl 0 rfl) ?_
      refine r_get X w lyC_3 rfl inT4 4 rfl (by decide) rfl tw_106 dX4_takeOldestTag_22 ?_
      refine lv_icmp_eq (tgt := 32) X.1 X.2.1 dX4_takeOldestTag_25 (by decide) (fun c9 => ?_) (fun c9 => ?_)
      · rw [if_pos c9] at h
        refine lv_iconst (v := (0 : Int32)) X.1 X.2.1 dX4_takeOldestTag_32 (by decide) ?_
        exact wX4_takeOldestTag_b33 X M hk4 w (lv_sub hl [0, 1, 2] rfl) h
      · rw [if_neg c9] at h
        refine lv_iconst (v := (1 : Int32)) X.1 X.2.1 dX4_takeOldestTag_28 (by decide) ?_
        refine lv_goto (tgt := 33) X.1 X.2.1 dX4_takeOldestTag_29 (by decide) ?_
        exact wX4_takeOldestTag_b33 X M hk4 w (lv_sub hl [0, 1, 2] rfl) h
set_option maxRecDepth 100000 in
set_option maxHeartbeats 4000000 in
theorem wX4_takeOldestTag_b4 {p : Program} {l : Launch} {e : Env} {s : State} {m : MethodId} {args : Array Value} {below : List Frame} {meth : Method} {c : Code} {D : va_G} {ca : Nat → ClassId} {ad : Nat → Nat} {cap : Nat}  {mem' : Mm} {r : Int32} (X : CallFix p m c cX4_takeOldestTag 4 s args TT RX4) (M : Mt meth (some .int))  : ∀ (n : Nat) (mem : Mm) (x1 : Int32) (x2 : Int32) (H : Heap) (locs : List Loc) (ls : Array Slot)  (_ : Wd D ca ad (layC cap) (AA ad (layC cap).length) s.heap s mem H locs) (_ : lv_has ls 4 [(0, .ref (ad 3)), (1, .int x1), (2, .int x2)]) (_ : fX4_takeOldestTag_b4  n mem x1 x2 = some (mem', r)), W p l e (rmx 0 0) s m args below meth c H locs 0 0 (EndI D ca ad (layC cap) mem' r below args s) (F0 m 4 ls []) := by
  intro n
  induction n with
  | zero => intro mem x1 x2 H locs ls  w hl h; exact (nofun : (none : Option (Mm × Int32)) = _ → _) h
  | succ n ih => intro mem x1 x2 H locs ls  w hl h; exact wX4_takeOldestTag_b4_s X M  ih  w hl h
def fX4_takeOldestTag (mem : Mm)  : Option (Mm × Int32) :=
  fX4_takeOldestTag_b4 2000 mem (-1 : Int32) (0 : Int32)
set_option maxRecDepth 100000 in
set_option maxHeartbeats 4000000 in
theorem kX4_takeOldestTag {cap : Nat} (l : Launch) (D : va_G) (ca : Nat → ClassId) (ad : Nat → Nat) (mem : Mm)   {mem' : Mm} {r : Int32} (h : fX4_takeOldestTag mem  = some (mem', r)) : CtI l yX4_takeOldestTag cX4_takeOldestTag 4 (some .int) (rmx 0 0) D ca ad (layC cap) mem [.ref (ad 3)] mem' r := by
  refine CtI.of (by decide) (Nat.le_of_ble_eq_true rfl) ?_
  intro p e s m args below meth c H locs ls X M w hl
  replace X : CallFix p m c cX4_takeOldestTag 4 s args TT RX4 := X
  replace hl : lv_has ls 4 [(0, .ref (ad 3))] := hl
  unfold fX4_takeOldestTag at h
  refine lv_iconst (v := (-1 : Int32)) X.1 X.2.1 dX4_takeOldestTag_0 (by decide) ?_
  refine lv_istore_n (lv' := [(1, .int (-1 : Int32)), (0, .ref (ad 3))]) X.1 X.2.1 dX4_takeOldestTag_1 rfl hl (by decide) rfl (fun ls hl => ?_)
  refine lv_iconst (v := (0 : Int32)) X.1 X.2.1 dX4_takeOldestTag_2 (by decide) ?_
  refine lv_istore_n (lv' := [(2, .int (0 : Int32)), (1, .int (-1 : Int32)), (0, .ref (ad 3))]) X.1 X.2.1 dX4_takeOldestTag_3 rfl hl (by decide) rfl (fun ls hl => ?_)
  exact wX4_takeOldestTag_b4 X M _ _ _ _ H locs ls w (lv_sub hl [2, 1, 0] rfl) h
/-! WalkHouse$Store.heldAt(I)LWalkHouse$Place; (R) -/
theorem hdX5_heldAt : yX5_heldAt.cls = RX5 ∧ yX5_heldAt.cls ≠ "java/lang/invoke/MethodHandle" ∧ yX5_heldAt.cls ≠ "java/lang/invoke/VarHandle" ∧ (parseMethodDescriptor yX5_heldAt.desc).map (fun d => d.parameters.length) = some 1 := by decide +kernel
def fX5_heldAt (mem : Mm) (a0 : Nat) (a1 : Int32) : Option (Option Nat) :=
  if a1 < 0 then some none else if (6 : Int32) ≤ a1 then some none else gd a1 6 (lkN ((a0 + 1) + 1 + 1 * a1.toNatClampNeg) (fun b4 => if (mem b4 0) = 0 then some none else gd a1 6 (lkN ((a0 + 1) + 1 + 1 * a1.toNatClampNeg) (fun b7 => some (some b7)))))
set_option maxRecDepth 100000 in
set_option maxHeartbeats 4000000 in
theorem kX5_heldAt {cap : Nat} (l : Launch) (D : va_G) (ca : Nat → ClassId) (ad : Nat → Nat) (mem : Mm) (a0 : Nat) (a1 : Int32) (h0 : isSt a0) {r : Option Nat} (h : fX5_heldAt mem a0 a1 = some r) : CtQ l yX5_heldAt cX5_heldAt 2 (some (.object "WalkHouse$Place")) (rmx 0 0) D ca ad (layC cap) mem [.ref (ad a0), .int a1] mem r := by
  refine CtQ.of (by decide) (Nat.le_of_ble_eq_true rfl) ?_
  intro p e s m args below meth c H locs ls X M w hl
  replace X : CallFix p m c cX5_heldAt 2 s args TT RX5 := X
  replace hl : lv_has ls 2 [(0, .ref (ad a0)), (1, .int a1)] := hl
  unfold fX5_heldAt at h
  refine lv_iload_n X.1 X.2.1 dX5_heldAt_0 rfl (lv_at hl 1 rfl) ?_
  refine lv_if_lt (tgt := 31) X.1 X.2.1 dX5_heldAt_1 (by decide) (fun c1 => ?_) (fun c1 => ?_)
  · rw [if_pos c1] at h
    refine lv_null X.1 X.2.1 dX5_heldAt_31 ?_
    obtain rfl := Option.some.inj h
    exact r_aret (r := none) X M w dX5_heldAt_32
  · rw [if_neg c1] at h
    refine lv_iload_n X.1 X.2.1 dX5_heldAt_4 rfl (lv_at hl 1 rfl) ?_
    refine lv_bipush (v := (6 : Int32)) X.1 X.2.1 dX5_heldAt_5 (by decide) ?_
    refine lv_icmp_ge (tgt := 31) X.1 X.2.1 dX5_heldAt_7 (by decide) (fun c2 => ?_) (fun c2 => ?_)
    · rw [if_pos c2] at h
      refine lv_null X.1 X.2.1 dX5_heldAt_31 ?_
      obtain rfl := Option.some.inj h
      exact r_aret (r := none) X M w dX5_heldAt_32
    · rw [if_neg c2] at h
      refine lv_aload_n X.1 X.2.1 dX5_heldAt_10 rfl (lv_at hl 0 rfl) ?_
      refine r_getr (b2 := (a0 + 1)) X w (lySt h0) rfl inT5 0 rfl rfl (by decide) rfl tw_170 dX5_heldAt_11 ?_
      refine lv_iload_n X.1 X.2.1 dX5_heldAt_14 rfl (lv_at hl 1 rfl) ?_
      obtain ⟨hi3, h⟩ := gd_some h
      obtain ⟨b4, eb4, h⟩ := lkN_some h
      refine r_aald X w (t := 2) (lySA h0) rfl hi3 eb4 dX5_heldAt_15 ?_
      have hb4 : isPl b4 := isPl_of h0 hi3 eb4
      refine r_get X w (lyPl hb4) rfl inT3 0 rfl (by decide) rfl tw_134 dX5_heldAt_16 ?_
      refine lv_if_eq (tgt := 31) X.1 X.2.1 dX5_heldAt_19 (by decide) (fun c5 => ?_) (fun c5 => ?_)
      · rw [if_pos c5] at h
        refine lv_null X.1 X.2.1 dX5_heldAt_31 ?_
        obtain rfl := Option.some.inj h
        exact r_aret (r := none) X M w dX5_heldAt_32
      · rw [if_neg c5] at h
        refine lv_aload_n X.1 X.2.1 dX5_heldAt_22 rfl (lv_at hl 0 rfl) ?_
        refine r_getr (b2 := (a0 + 1)) X w (lySt h0) rfl inT5 0 rfl rfl (by decide) rfl tw_170 dX5_heldAt_23 ?_
        refine lv_iload_n X.1 X.2.1 dX5_heldAt_26 rfl (lv_at hl 1 rfl) ?_
        obtain ⟨hi6, h⟩ := gd_some h
        obtain ⟨b7, eb7, h⟩ := lkN_some h
        refine r_aald X w (t := 2) (lySA h0) rfl hi6 eb7 dX5_heldAt_27 ?_
        have hb7 : isPl b7 := isPl_of h0 hi6 eb7
        refine lv_goto (tgt := 32) X.1 X.2.1 dX5_heldAt_28 (by decide) ?_
        obtain rfl := Option.some.inj h
        exact r_aret (r := (some b7)) X M w dX5_heldAt_32
/-! WalkHouse$Store.held()I (R) -/
theorem hdX5_held : yX5_held.cls = RX5 ∧ yX5_held.cls ≠ "java/lang/invoke/MethodHandle" ∧ yX5_held.cls ≠ "java/lang/invoke/VarHandle" ∧ (parseMethodDescriptor yX5_held.desc).map (fun d => d.parameters.length) = some 0 := by decide +kernel
def fX5_held_b4_s  (k4 : Mm → Nat → Int32 → Int32 → Option Int32) (mem : Mm) (x0 : Nat) (x1 : Int32) (x2 : Int32) : Option Int32 :=
  if (6 : Int32) ≤ x2 then some x1 else gd x2 6 (lkN ((x0 + 1) + 1 + 1 * x2.toNatClampNeg) (fun b3 => if (mem b3 0) = 0 then k4 mem x0 x1 (x2 + (1 : Int32)) else k4 mem x0 (x1 + (1 : Int32)) (x2 + (1 : Int32))))
def fX5_held_b4  : Nat → Mm → Nat → Int32 → Int32 → Option Int32
  | 0 => fun _ _ _ _ => none
  | n + 1 => fX5_held_b4_s  (fX5_held_b4  n)
set_option maxRecDepth 100000 in
set_option maxHeartbeats 4000000 in
theorem wX5_held_b4_s {p : Program} {l : Launch} {e : Env} {s : State} {m : MethodId} {args : Array Value} {below : List Frame} {meth : Method} {c : Code} {D : va_G} {ca : Nat → ClassId} {ad : Nat → Nat} {cap : Nat} {H : Heap} {locs : List Loc} {ls : Array Slot} {mem : Mm} {x0 : Nat} {x1 : Int32} {x2 : Int32}  {k4 : Mm → Nat → Int32 → Int32 → Option Int32} {r : Int32} (X : CallFix p m c cX5_held 3 s args TT RX5) (M : Mt meth (some .int))  (hk4 : ∀ (x0 : Nat) (x1 : Int32) (x2 : Int32) (H : Heap) (locs : List Loc) (ls : Array Slot) (hx0 : isSt x0), Wd D ca ad (layC cap) (AA ad (layC cap).length) s.heap s mem H locs → lv_has ls 3 [(0, .ref (ad x0)), (1, .int x1), (2, .int x2)] → k4 mem x0 x1 x2 = some r → W p l e (rmx 0 0) s m args below meth c H locs 0 0 (EndI D ca ad (layC cap) mem r below args s) (F0 m 4 ls [])) (hx0 : isSt x0) (w : Wd D ca ad (layC cap) (AA ad (layC cap).length) s.heap s mem H locs) (hl : lv_has ls 3 [(0, .ref (ad x0)), (1, .int x1), (2, .int x2)]) (h : fX5_held_b4_s  k4 mem x0 x1 x2 = some r) : W p l e (rmx 0 0) s m args below meth c H locs 0 0 (EndI D ca ad (layC cap) mem r below args s) (F0 m 4 ls []) := by
  unfold fX5_held_b4_s at h
  refine lv_iload_n X.1 X.2.1 dX5_held_4 rfl (lv_at hl 2 rfl) ?_
  refine lv_bipush (v := (6 : Int32)) X.1 X.2.1 dX5_held_5 (by decide) ?_
  refine lv_icmp_ge (tgt := 31) X.1 X.2.1 dX5_held_7 (by decide) (fun c1 => ?_) (fun c1 => ?_)
  · rw [if_pos c1] at h
    refine lv_iload_n X.1 X.2.1 dX5_held_31 rfl (lv_at hl 1 rfl) ?_
    obtain rfl := Option.some.inj h
    exact r_iret X M w dX5_held_32
  · rw [if_neg c1] at h
    refine lv_aload_n X.1 X.2.1 dX5_held_10 rfl (lv_at hl 0 rfl) ?_
    refine r_getr (b2 := (x0 + 1)) X w (lySt hx0) rfl inT5 0 rfl rfl (by decide) rfl tw_170 dX5_held_11 ?_
    refine lv_iload_n X.1 X.2.1 dX5_held_14 rfl (lv_at hl 2 rfl) ?_
    obtain ⟨hi2, h⟩ := gd_some h
    obtain ⟨b3, eb3, h⟩ := lkN_some h
    refine r_aald X w (t := 2) (lySA hx0) rfl hi2 eb3 dX5_held_15 ?_
    have hb3 : isPl b3 := isPl_of hx0 hi2 eb3
    refine r_get X w (lyPl hb3) rfl inT3 0 rfl (by decide) rfl tw_134 dX5_held_16 ?_
    refine lv_if_eq (tgt := 25) X.1 X.2.1 dX5_held_19 (by decide) (fun c4 => ?_) (fun c4 => ?_)
    · rw [if_pos c4] at h
      refine lv_iinc (v := (x2 + (1 : Int32))) (lv' := [(2, .int (x2 + (1 : Int32))), (0, .ref (ad x0)), (1, .int x1)]) X.1 X.2.1 dX5_held_25 hl (k := 2) rfl rfl (by decide) rfl (fun ls hl => ?_)
      refine lv_goto (tgt := 4) X.1 X.2.1 dX5_held_28 (by decide) ?_
      exact hk4 _ _ _ H locs ls hx0 w (lv_sub hl [1, 2, 0] rfl) h
    · rw [if_neg c4] at h
      refine lv_iinc (v := (x1 + (1 : Int32))) (lv' := [(1, .int (x1 + (1 : Int32))), (0, .ref (ad x0)), (2, .int x2)]) X.1 X.2.1 dX5_held_22 hl (k := 1) rfl rfl (by decide) rfl (fun ls hl => ?_)
      refine lv_iinc (v := (x2 + (1 : Int32))) (lv' := [(2, .int (x2 + (1 : Int32))), (1, .int (x1 + (1 : Int32))), (0, .ref (ad x0))]) X.1 X.2.1 dX5_held_25 hl (k := 2) rfl rfl (by decide) rfl (fun ls hl => ?_)
      refine lv_goto (tgt := 4) X.1 X.2.1 dX5_held_28 (by decide) ?_
      exact hk4 _ _ _ H locs ls hx0 w (lv_sub hl [2, 1, 0] rfl) h
set_option maxRecDepth 100000 in
set_option maxHeartbeats 4000000 in
theorem wX5_held_b4 {p : Program} {l : Launch} {e : Env} {s : State} {m : MethodId} {args : Array Value} {below : List Frame} {meth : Method} {c : Code} {D : va_G} {ca : Nat → ClassId} {ad : Nat → Nat} {cap : Nat} {mem : Mm}  {r : Int32} (X : CallFix p m c cX5_held 3 s args TT RX5) (M : Mt meth (some .int))  : ∀ (n : Nat) (x0 : Nat) (x1 : Int32) (x2 : Int32) (H : Heap) (locs : List Loc) (ls : Array Slot) (hx0 : isSt x0) (_ : Wd D ca ad (layC cap) (AA ad (layC cap).length) s.heap s mem H locs) (_ : lv_has ls 3 [(0, .ref (ad x0)), (1, .int x1), (2, .int x2)]) (_ : fX5_held_b4  n mem x0 x1 x2 = some r), W p l e (rmx 0 0) s m args below meth c H locs 0 0 (EndI D ca ad (layC cap) mem r below args s) (F0 m 4 ls []) := by
  intro n
  induction n with
  | zero => intro x0 x1 x2 H locs ls hx0 w hl h; exact (nofun : (none : Option Int32) = _ → _) h
  | succ n ih => intro x0 x1 x2 H locs ls hx0 w hl h; exact wX5_held_b4_s X M  ih hx0 w hl h
def fX5_held (mem : Mm) (a0 : Nat) : Option Int32 :=
  fX5_held_b4 2000 mem a0 (0 : Int32) (0 : Int32)
set_option maxRecDepth 100000 in
set_option maxHeartbeats 4000000 in
theorem kX5_held {cap : Nat} (l : Launch) (D : va_G) (ca : Nat → ClassId) (ad : Nat → Nat) (mem : Mm) (a0 : Nat) (h0 : isSt a0) {r : Int32} (h : fX5_held mem a0 = some r) : CtI l yX5_held cX5_held 3 (some .int) (rmx 0 0) D ca ad (layC cap) mem [.ref (ad a0)] mem r := by
  refine CtI.of (by decide) (Nat.le_of_ble_eq_true rfl) ?_
  intro p e s m args below meth c H locs ls X M w hl
  replace X : CallFix p m c cX5_held 3 s args TT RX5 := X
  replace hl : lv_has ls 3 [(0, .ref (ad a0))] := hl
  unfold fX5_held at h
  refine lv_iconst (v := (0 : Int32)) X.1 X.2.1 dX5_held_0 (by decide) ?_
  refine lv_istore_n (lv' := [(1, .int (0 : Int32)), (0, .ref (ad a0))]) X.1 X.2.1 dX5_held_1 rfl hl (by decide) rfl (fun ls hl => ?_)
  refine lv_iconst (v := (0 : Int32)) X.1 X.2.1 dX5_held_2 (by decide) ?_
  refine lv_istore_n (lv' := [(2, .int (0 : Int32)), (1, .int (0 : Int32)), (0, .ref (ad a0))]) X.1 X.2.1 dX5_held_3 rfl hl (by decide) rfl (fun ls hl => ?_)
  exact wX5_held_b4 X M _ _ _ _ H locs ls h0 w (lv_sub hl [2, 1, 0] rfl) h
/-! WalkHouse$Store.usedLaterThan(LWalkHouse$Place;)I (R) -/
theorem hdX5_usedLaterThan : yX5_usedLaterThan.cls = RX5 ∧ yX5_usedLaterThan.cls ≠ "java/lang/invoke/MethodHandle" ∧ yX5_usedLaterThan.cls ≠ "java/lang/invoke/VarHandle" ∧ (parseMethodDescriptor yX5_usedLaterThan.desc).map (fun d => d.parameters.length) = some 1 := by decide +kernel
def fX5_usedLaterThan_b4_s  (k4 : Mm → Nat → Nat → Int32 → Int32 → Option Int32) (mem : Mm) (x0 : Nat) (x1 : Nat) (x2 : Int32) (x3 : Int32) : Option Int32 :=
  if (6 : Int32) ≤ x3 then some x2 else gd x3 6 (lkN ((x0 + 1) + 1 + 1 * x3.toNatClampNeg) (fun b3 => if (mem b3 0) = 0 then k4 mem x0 x1 x2 (x3 + (1 : Int32)) else gd x3 6 (lkN ((x0 + 1) + 1 + 1 * x3.toNatClampNeg) (fun b6 => if (mem b6 7) ≤ (mem x1 7) then k4 mem x0 x1 x2 (x3 + (1 : Int32)) else k4 mem x0 x1 (x2 + (1 : Int32)) (x3 + (1 : Int32))))))
def fX5_usedLaterThan_b4  : Nat → Mm → Nat → Nat → Int32 → Int32 → Option Int32
  | 0 => fun _ _ _ _ _ => none
  | n + 1 => fX5_usedLaterThan_b4_s  (fX5_usedLaterThan_b4  n)
set_option maxRecDepth 100000 in
set_option maxHeartbeats 4000000 in
theorem wX5_usedLaterThan_b4_s {p : Program} {l : Launch} {e : Env} {s : State} {m : MethodId} {args : Array Value} {below : List Frame} {meth : Method} {c : Code} {D : va_G} {ca : Nat → ClassId} {ad : Nat → Nat} {cap : Nat} {H : Heap} {locs : List Loc} {ls : Array Slot} {mem : Mm} {x0 : Nat} {x1 : Nat} {x2 : Int32} {x3 : Int32}  {k4 : Mm → Nat → Nat → Int32 → Int32 → Option Int32} {r : Int32} (X : CallFix p m c cX5_usedLaterThan 4 s args TT RX5) (M : Mt meth (some .int))  (hk4 : ∀ (x0 : Nat) (x1 : Nat) (x2 : Int32) (x3 : Int32) (H : Heap) (locs : List Loc) (ls : Array Slot) (hx0 : isSt x0) (hx1 : isPl x1), Wd D ca ad (layC cap) (AA ad (layC cap).length) s.heap s mem H locs → lv_has ls 4 [(0, .ref (ad x0)), (1, .ref (ad x1)), (2, .int x2), (3, .int x3)] → k4 mem x0 x1 x2 x3 = some r → W p l e (rmx 0 0) s m args below meth c H locs 0 0 (EndI D ca ad (layC cap) mem r below args s) (F0 m 4 ls [])) (hx0 : isSt x0) (hx1 : isPl x1) (w : Wd D ca ad (layC cap) (AA ad (layC cap).length) s.heap s mem H locs) (hl : lv_has ls 4 [(0, .ref (ad x0)), (1, .ref (ad x1)), (2, .int x2), (3, .int x3)]) (h : fX5_usedLaterThan_b4_s  k4 mem x0 x1 x2 x3 = some r) : W p l e (rmx 0 0) s m args below meth c H locs 0 0 (EndI D ca ad (layC cap) mem r below args s) (F0 m 4 ls []) := by
  unfold fX5_usedLaterThan_b4_s at h
  refine lv_iload_n X.1 X.2.1 dX5_usedLaterThan_4 rfl (lv_at hl 3 rfl) ?_
  refine lv_bipush (v := (6 : Int32)) X.1 X.2.1 dX5_usedLaterThan_5 (by decide) ?_
  refine lv_icmp_ge (tgt := 47) X.1 X.2.1 dX5_usedLaterThan_7 (by decide) (fun c1 => ?_) (fun c1 => ?_)
  · rw [if_pos c1] at h
    refine lv_iload_n X.1 X.2.1 dX5_usedLaterThan_47 rfl (lv_at hl 2 rfl) ?_
    obtain rfl := Option.some.inj h
    exact r_iret X M w dX5_usedLaterThan_48
  · rw [if_neg c1] at h
    refine lv_aload_n X.1 X.2.1 dX5_usedLaterThan_10 rfl (lv_at hl 0 rfl) ?_
    refine r_getr (b2 := (x0 + 1)) X w (lySt hx0) rfl inT5 0 rfl rfl (by decide) rfl tw_170 dX5_usedLaterThan_11 ?_
    refine lv_iload_n X.1 X.2.1 dX5_usedLaterThan_14 rfl (lv_at hl 3 rfl) ?_
    obtain ⟨hi2, h⟩ := gd_some h
    obtain ⟨b3, eb3, h⟩ := lkN_some h
    refine r_aald X w (t := 2) (lySA hx0) rfl hi2 eb3 dX5_usedLaterThan_15 ?_
    have hb3 : isPl b3 := isPl_of hx0 hi2 eb3
    refine r_get X w (lyPl hb3) rfl inT3 0 rfl (by decide) rfl tw_134 dX5_usedLaterThan_16 ?_
    refine lv_if_eq (tgt := 41) X.1 X.2.1 dX5_usedLaterThan_19 (by decide) (fun c4 => ?_) (fun c4 => ?_)
    · rw [if_pos c4] at h
      refine lv_iinc (v := (x3 + (1 : Int32))) (lv' := [(3, .int (x3 + (1 : Int32))), (0, .ref (ad x0)), (1, .ref (ad x1)), (2, .int x2)]) X.1 X.2.1 dX5_usedLaterThan_41 hl (k := 3) rfl rfl (by decide) rfl (fun ls hl => ?_)
      refine lv_goto (tgt := 4) X.1 X.2.1 dX5_usedLaterThan_44 (by decide) ?_
      exact hk4 _ _ _ _ H locs ls hx0 hx1 w (lv_sub hl [1, 2, 3, 0] rfl) h
    · rw [if_neg c4] at h
      refine lv_aload_n X.1 X.2.1 dX5_usedLaterThan_22 rfl (lv_at hl 0 rfl) ?_
      refine r_getr (b2 := (x0 + 1)) X w (lySt hx0) rfl inT5 0 rfl rfl (by decide) rfl tw_170 dX5_usedLaterThan_23 ?_
      refine lv_iload_n X.1 X.2.1 dX5_usedLaterThan_26 rfl (lv_at hl 3 rfl) ?_
      obtain ⟨hi5, h⟩ := gd_some h
      obtain ⟨b6, eb6, h⟩ := lkN_some h
      refine r_aald X w (t := 2) (lySA hx0) rfl hi5 eb6 dX5_usedLaterThan_27 ?_
      have hb6 : isPl b6 := isPl_of hx0 hi5 eb6
      refine r_get X w (lyPl hb6) rfl inT3 7 rfl (by decide) rfl tw_151 dX5_usedLaterThan_28 ?_
      refine lv_aload_n X.1 X.2.1 dX5_usedLaterThan_31 rfl (lv_at hl 1 rfl) ?_
      refine r_get X w (lyPl hx1) rfl inT3 7 rfl (by decide) rfl tw_151 dX5_usedLaterThan_32 ?_
      refine lv_icmp_le (tgt := 41) X.1 X.2.1 dX5_usedLaterThan_35 (by decide) (fun c7 => ?_) (fun c7 => ?_)
      · rw [if_pos c7] at h
        refine lv_iinc (v := (x3 + (1 : Int32))) (lv' := [(3, .int (x3 + (1 : Int32))), (0, .ref (ad x0)), (1, .ref (ad x1)), (2, .int x2)]) X.1 X.2.1 dX5_usedLaterThan_41 hl (k := 3) rfl rfl (by decide) rfl (fun ls hl => ?_)
        refine lv_goto (tgt := 4) X.1 X.2.1 dX5_usedLaterThan_44 (by decide) ?_
        exact hk4 _ _ _ _ H locs ls hx0 hx1 w (lv_sub hl [1, 2, 3, 0] rfl) h
      · rw [if_neg c7] at h
        refine lv_iinc (v := (x2 + (1 : Int32))) (lv' := [(2, .int (x2 + (1 : Int32))), (0, .ref (ad x0)), (1, .ref (ad x1)), (3, .int x3)]) X.1 X.2.1 dX5_usedLaterThan_38 hl (k := 2) rfl rfl (by decide) rfl (fun ls hl => ?_)
        refine lv_iinc (v := (x3 + (1 : Int32))) (lv' := [(3, .int (x3 + (1 : Int32))), (2, .int (x2 + (1 : Int32))), (0, .ref (ad x0)), (1, .ref (ad x1))]) X.1 X.2.1 dX5_usedLaterThan_41 hl (k := 3) rfl rfl (by decide) rfl (fun ls hl => ?_)
        refine lv_goto (tgt := 4) X.1 X.2.1 dX5_usedLaterThan_44 (by decide) ?_
        exact hk4 _ _ _ _ H locs ls hx0 hx1 w (lv_sub hl [2, 3, 1, 0] rfl) h
set_option maxRecDepth 100000 in
set_option maxHeartbeats 4000000 in
theorem wX5_usedLaterThan_b4 {p : Program} {l : Launch} {e : Env} {s : State} {m : MethodId} {args : Array Value} {below : List Frame} {meth : Method} {c : Code} {D : va_G} {ca : Nat → ClassId} {ad : Nat → Nat} {cap : Nat} {mem : Mm}  {r : Int32} (X : CallFix p m c cX5_usedLaterThan 4 s args TT RX5) (M : Mt meth (some .int))  : ∀ (n : Nat) (x0 : Nat) (x1 : Nat) (x2 : Int32) (x3 : Int32) (H : Heap) (locs : List Loc) (ls : Array Slot) (hx0 : isSt x0) (hx1 : isPl x1) (_ : Wd D ca ad (layC cap) (AA ad (layC cap).length) s.heap s mem H locs) (_ : lv_has ls 4 [(0, .ref (ad x0)), (1, .ref (ad x1)), (2, .int x2), (3, .int x3)]) (_ : fX5_usedLaterThan_b4  n mem x0 x1 x2 x3 = some r), W p l e (rmx 0 0) s m args below meth c H locs 0 0 (EndI D ca ad (layC cap) mem r below args s) (F0 m 4 ls []) := by
  intro n
  induction n with
  | zero => intro x0 x1 x2 x3 H locs ls hx0 hx1 w hl h; exact (nofun : (none : Option Int32) = _ → _) h
  | succ n ih => intro x0 x1 x2 x3 H locs ls hx0 hx1 w hl h; exact wX5_usedLaterThan_b4_s X M  ih hx0 hx1 w hl h
def fX5_usedLaterThan (mem : Mm) (a0 : Nat) (a1 : Nat) : Option Int32 :=
  fX5_usedLaterThan_b4 2000 mem a0 a1 (0 : Int32) (0 : Int32)
set_option maxRecDepth 100000 in
set_option maxHeartbeats 4000000 in
theorem kX5_usedLaterThan {cap : Nat} (l : Launch) (D : va_G) (ca : Nat → ClassId) (ad : Nat → Nat) (mem : Mm) (a0 : Nat) (a1 : Nat) (h0 : isSt a0) (h1 : isPl a1) {r : Int32} (h : fX5_usedLaterThan mem a0 a1 = some r) : CtI l yX5_usedLaterThan cX5_usedLaterThan 4 (some .int) (rmx 0 0) D ca ad (layC cap) mem [.ref (ad a0), .ref (ad a1)] mem r := by
  refine CtI.of (by decide) (Nat.le_of_ble_eq_true rfl) ?_
  intro p e s m args below meth c H locs ls X M w hl
  replace X : CallFix p m c cX5_usedLaterThan 4 s args TT RX5 := X
  replace hl : lv_has ls 4 [(0, .ref (ad a0)), (1, .ref (ad a1))] := hl
  unfold fX5_usedLaterThan at h
  refine lv_iconst (v := (0 : Int32)) X.1 X.2.1 dX5_usedLaterThan_0 (by decide) ?_
  refine lv_istore_n (lv' := [(2, .int (0 : Int32)), (0, .ref (ad a0)), (1, .ref (ad a1))]) X.1 X.2.1 dX5_usedLaterThan_1 rfl hl (by decide) rfl (fun ls hl => ?_)
  refine lv_iconst (v := (0 : Int32)) X.1 X.2.1 dX5_usedLaterThan_2 (by decide) ?_
  refine lv_istore_n (lv' := [(3, .int (0 : Int32)), (2, .int (0 : Int32)), (0, .ref (ad a0)), (1, .ref (ad a1))]) X.1 X.2.1 dX5_usedLaterThan_3 rfl hl (by decide) rfl (fun ls hl => ?_)
  exact wX5_usedLaterThan_b4 X M _ _ _ _ _ H locs ls h0 h1 w (lv_sub hl [2, 3, 1, 0] rfl) h
/-! WalkHouse$Store.touch(LWalkHouse$Place;)V (W) -/
theorem hdX5_touch : yX5_touch.cls = RX5 ∧ yX5_touch.cls ≠ "java/lang/invoke/MethodHandle" ∧ yX5_touch.cls ≠ "java/lang/invoke/VarHandle" ∧ (parseMethodDescriptor yX5_touch.desc).map (fun d => d.parameters.length) = some 1 := by decide +kernel
def fX5_touch (mem : Mm) (a0 : Nat) (a1 : Nat) : Option (Mm × Unit) :=
  wk mem a0 1 ((mem a0 1) + (1 : Int32)) (fun m1 => wk m1 a1 7 (m1 a0 1) (fun m2 => some (m2, ())))
set_option maxRecDepth 100000 in
set_option maxHeartbeats 4000000 in
theorem kX5_touch {cap : Nat} (l : Launch) (D : va_G) (ca : Nat → ClassId) (ad : Nat → Nat) (mem : Mm) (a0 : Nat) (a1 : Nat) (h0 : isSt a0) (h1 : isPl a1) {mem' : Mm} {r : Unit} (h : fX5_touch mem a0 a1 = some (mem', r)) : CtV l yX5_touch cX5_touch 2 none (rmx 0 0) D ca ad (layC cap) mem [.ref (ad a0), .ref (ad a1)] mem' := by
  refine CtV.of (by decide) (Nat.le_of_ble_eq_true rfl) ?_
  intro p e s m args below meth c H locs ls X M w hl
  replace X : CallFix p m c cX5_touch 2 s args TT RX5 := X
  replace hl : lv_has ls 2 [(0, .ref (ad a0)), (1, .ref (ad a1))] := hl
  unfold fX5_touch at h
  refine lv_aload_n X.1 X.2.1 dX5_touch_0 rfl (lv_at hl 0 rfl) ?_
  refine lv_dup X.1 X.2.1 dX5_touch_1 rfl ?_
  refine r_get X w (lySt h0) rfl inT5 1 rfl (by decide) rfl tw_172 dX5_touch_2 ?_
  refine lv_iconst (v := (1 : Int32)) X.1 X.2.1 dX5_touch_5 (by decide) ?_
  refine lv_iadd X.1 X.2.1 dX5_touch_6 ?_
  refine r_put X w (lySt h0) rfl inT5 tyX5 tyX5_ok nmX5 1 rfl (by decide) rfl rfl tw_172 rfl rfl dX5_touch_7 (fun H locs w => ?_)
  obtain ⟨m1, em1, h⟩ := wk_some h
  rw [em1] at w
  refine lv_aload_n X.1 X.2.1 dX5_touch_10 rfl (lv_at hl 1 rfl) ?_
  refine lv_aload_n X.1 X.2.1 dX5_touch_11 rfl (lv_at hl 0 rfl) ?_
  refine r_get X w (lySt h0) rfl inT5 1 rfl (by decide) rfl tw_172 dX5_touch_12 ?_
  refine r_put X w (lyPl h1) rfl inT3 tyX3 tyX3_ok nmX3 7 rfl (by decide) rfl rfl tw_151 rfl rfl dX5_touch_15 (fun H locs w => ?_)
  obtain ⟨m2, em2, h⟩ := wk_some h
  rw [em2] at w
  obtain ⟨rfl, -⟩ := Prod.mk.inj (Option.some.inj h)
  exact r_vret X M w dX5_touch_18
/-! WalkHouse$Store.find(III)LWalkHouse$Place; (R) -/
theorem hdX5_find : yX5_find.cls = RX5 ∧ yX5_find.cls ≠ "java/lang/invoke/MethodHandle" ∧ yX5_find.cls ≠ "java/lang/invoke/VarHandle" ∧ (parseMethodDescriptor yX5_find.desc).map (fun d => d.parameters.length) = some 3 := by decide +kernel
def fX5_find_b3_s  (k3 : Mm → Nat → Int32 → Int32 → Int32 → Int32 → Option (Option Nat)) (mem : Mm) (x0 : Nat) (x1 : Int32) (x2 : Int32) (x3 : Int32) (x4 : Int32) : Option (Option Nat) :=
  if (6 : Int32) ≤ x4 then some none else gd x4 6 (lkN ((x0 + 1) + 1 + 1 * x4.toNatClampNeg) (fun b3 => if (mem b3 0) = 0 then k3 mem x0 x1 x2 x3 (x4 + (1 : Int32)) else if (mem b3 1) = x1 then if (mem b3 2) = x2 then if (mem b3 3) = x3 then some (some b3) else k3 mem x0 x1 x2 x3 (x4 + (1 : Int32)) else k3 mem x0 x1 x2 x3 (x4 + (1 : Int32)) else k3 mem x0 x1 x2 x3 (x4 + (1 : Int32))))
def fX5_find_b3  : Nat → Mm → Nat → Int32 → Int32 → Int32 → Int32 → Option (Option Nat)
  | 0 => fun _ _ _ _ _ _ => none
  | n + 1 => fX5_find_b3_s  (fX5_find_b3  n)
set_option maxRecDepth 100000 in
set_option maxHeartbeats 4000000 in
theorem wX5_find_b3_s {p : Program} {l : Launch} {e : Env} {s : State} {m : MethodId} {args : Array Value} {below : List Frame} {meth : Method} {c : Code} {D : va_G} {ca : Nat → ClassId} {ad : Nat → Nat} {cap : Nat} {H : Heap} {locs : List Loc} {ls : Array Slot} {mem : Mm} {x0 : Nat} {x1 : Int32} {x2 : Int32} {x3 : Int32} {x4 : Int32}  {k3 : Mm → Nat → Int32 → Int32 → Int32 → Int32 → Option (Option Nat)} {r : Option Nat} (X : CallFix p m c cX5_find 6 s args TT RX5) (M : Mt meth (some (.object "WalkHouse$Place")))  (hk3 : ∀ (x0 : Nat) (x1 : Int32) (x2 : Int32) (x3 : Int32) (x4 : Int32) (H : Heap) (locs : List Loc) (ls : Array Slot) (hx0 : isSt x0), Wd D ca ad (layC cap) (AA ad (layC cap).length) s.heap s mem H locs → lv_has ls 6 [(0, .ref (ad x0)), (1, .int x1), (2, .int x2), (3, .int x3), (4, .int x4)] → k3 mem x0 x1 x2 x3 x4 = some r → W p l e (rmx 0 0) s m args below meth c H locs 0 0 (EndQ D ca ad (layC cap) mem r below args s) (F0 m 3 ls [])) (hx0 : isSt x0) (w : Wd D ca ad (layC cap) (AA ad (layC cap).length) s.heap s mem H locs) (hl : lv_has ls 6 [(0, .ref (ad x0)), (1, .int x1), (2, .int x2), (3, .int x3), (4, .int x4)]) (h : fX5_find_b3_s  k3 mem x0 x1 x2 x3 x4 = some r) : W p l e (rmx 0 0) s m args below meth c H locs 0 0 (EndQ D ca ad (layC cap) mem r below args s) (F0 m 3 ls []) := by
  unfold fX5_find_b3_s at h
  refine lv_iload X.1 X.2.1 dX5_find_3 (lv_at hl 4 rfl) ?_
  refine lv_bipush (v := (6 : Int32)) X.1 X.2.1 dX5_find_5 (by decide) ?_
  refine lv_icmp_ge (tgt := 63) X.1 X.2.1 dX5_find_7 (by decide) (fun c1 => ?_) (fun c1 => ?_)
  · rw [if_pos c1] at h
    refine lv_null X.1 X.2.1 dX5_find_63 ?_
    obtain rfl := Option.some.inj h
    exact r_aret (r := none) X M w dX5_find_64
  · rw [if_neg c1] at h
    refine lv_aload_n X.1 X.2.1 dX5_find_10 rfl (lv_at hl 0 rfl) ?_
    refine r_getr (b2 := (x0 + 1)) X w (lySt hx0) rfl inT5 0 rfl rfl (by decide) rfl tw_170 dX5_find_11 ?_
    refine lv_iload X.1 X.2.1 dX5_find_14 (lv_at hl 4 rfl) ?_
    obtain ⟨hi2, h⟩ := gd_some h
    obtain ⟨b3, eb3, h⟩ := lkN_some h
    refine r_aald X w (t := 2) (lySA hx0) rfl hi2 eb3 dX5_find_16 ?_
    have hb3 : isPl b3 := isPl_of hx0 hi2 eb3
    refine lv_astore (lv' := [(5, .ref (ad b3)), (0, .ref (ad x0)), (1, .int x1), (2, .int x2), (3, .int x3), (4, .int x4)]) X.1 X.2.1 dX5_find_17 hl (by decide) rfl (fun ls hl => ?_)
    refine lv_aload X.1 X.2.1 dX5_find_19 (lv_at hl 0 rfl) ?_
    refine r_get X w (lyPl hb3) rfl inT3 0 rfl (by decide) rfl tw_134 dX5_find_21 ?_
    refine lv_if_eq (tgt := 57) X.1 X.2.1 dX5_find_24 (by decide) (fun c4 => ?_) (fun c4 => ?_)
    · rw [if_pos c4] at h
      refine lv_iinc (v := (x4 + (1 : Int32))) (lv' := [(4, .int (x4 + (1 : Int32))), (5, .ref (ad b3)), (0, .ref (ad x0)), (1, .int x1), (2, .int x2), (3, .int x3)]) X.1 X.2.1 dX5_find_57 hl (k := 5) rfl rfl (by decide) rfl (fun ls hl => ?_)
      refine lv_goto (tgt := 3) X.1 X.2.1 dX5_find_60 (by decide) ?_
      exact hk3 _ _ _ _ _ H locs ls hx0 w (lv_sub hl [2, 3, 4, 5, 0] rfl) h
    · rw [if_neg c4] at h
      refine lv_aload X.1 X.2.1 dX5_find_27 (lv_at hl 0 rfl) ?_
      refine r_get X w (lyPl hb3) rfl inT3 1 rfl (by decide) rfl tw_136 dX5_find_29 ?_
      refine lv_iload_n X.1 X.2.1 dX5_find_32 rfl (lv_at hl 2 rfl) ?_
      refine lv_icmp_ne (tgt := 57) X.1 X.2.1 dX5_find_33 (by decide) (fun c5 => ?_) (fun c5 => ?_)
      · rw [if_neg c5] at h
        refine lv_iinc (v := (x4 + (1 : Int32))) (lv' := [(4, .int (x4 + (1 : Int32))), (5, .ref (ad b3)), (0, .ref (ad x0)), (1, .int x1), (2, .int x2), (3, .int x3)]) X.1 X.2.1 dX5_find_57 hl (k := 5) rfl rfl (by decide) rfl (fun ls hl => ?_)
        refine lv_goto (tgt := 3) X.1 X.2.1 dX5_find_60 (by decide) ?_
        exact hk3 _ _ _ _ _ H locs ls hx0 w (lv_sub hl [2, 3, 4, 5, 0] rfl) h
      · rw [if_pos c5] at h
        refine lv_aload X.1 X.2.1 dX5_find_36 (lv_at hl 0 rfl) ?_
        refine r_get X w (lyPl hb3) rfl inT3 2 rfl (by decide) rfl tw_140 dX5_find_38 ?_
        refine lv_iload_n X.1 X.2.1 dX5_find_41 rfl (lv_at hl 3 rfl) ?_
        refine lv_icmp_ne (tgt := 57) X.1 X.2.1 dX5_find_42 (by decide) (fun c6 => ?_) (fun c6 => ?_)
        · rw [if_neg c6] at h
          refine lv_iinc (v := (x4 + (1 : Int32))) (lv' := [(4, .int (x4 + (1 : Int32))), (5, .ref (ad b3)), (0, .ref (ad x0)), (1, .int x1), (2, .int x2), (3, .int x3)]) X.1 X.2.1 dX5_find_57 hl (k := 5) rfl rfl (by decide) rfl (fun ls hl => ?_)
          refine lv_goto (tgt := 3) X.1 X.2.1 dX5_find_60 (by decide) ?_
          exact hk3 _ _ _ _ _ H locs ls hx0 w (lv_sub hl [2, 3, 4, 5, 0] rfl) h
        · rw [if_pos c6] at h
          refine lv_aload X.1 X.2.1 dX5_find_45 (lv_at hl 0 rfl) ?_
          refine r_get X w (lyPl hb3) rfl inT3 3 rfl (by decide) rfl tw_143 dX5_find_47 ?_
          refine lv_iload_n X.1 X.2.1 dX5_find_50 rfl (lv_at hl 4 rfl) ?_
          refine lv_icmp_ne (tgt := 57) X.1 X.2.1 dX5_find_51 (by decide) (fun c7 => ?_) (fun c7 => ?_)
          · rw [if_neg c7] at h
            refine lv_iinc (v := (x4 + (1 : Int32))) (lv' := [(4, .int (x4 + (1 : Int32))), (5, .ref (ad b3)), (0, .ref (ad x0)), (1, .int x1), (2, .int x2), (3, .int x3)]) X.1 X.2.1 dX5_find_57 hl (k := 5) rfl rfl (by decide) rfl (fun ls hl => ?_)
            refine lv_goto (tgt := 3) X.1 X.2.1 dX5_find_60 (by decide) ?_
            exact hk3 _ _ _ _ _ H locs ls hx0 w (lv_sub hl [2, 3, 4, 5, 0] rfl) h
          · rw [if_pos c7] at h
            refine lv_aload X.1 X.2.1 dX5_find_54 (lv_at hl 0 rfl) ?_
            obtain rfl := Option.some.inj h
            exact r_aret (r := (some b3)) X M w dX5_find_56
set_option maxRecDepth 100000 in
set_option maxHeartbeats 4000000 in
theorem wX5_find_b3 {p : Program} {l : Launch} {e : Env} {s : State} {m : MethodId} {args : Array Value} {below : List Frame} {meth : Method} {c : Code} {D : va_G} {ca : Nat → ClassId} {ad : Nat → Nat} {cap : Nat} {mem : Mm}  {r : Option Nat} (X : CallFix p m c cX5_find 6 s args TT RX5) (M : Mt meth (some (.object "WalkHouse$Place")))  : ∀ (n : Nat) (x0 : Nat) (x1 : Int32) (x2 : Int32) (x3 : Int32) (x4 : Int32) (H : Heap) (locs : List Loc) (ls : Array Slot) (hx0 : isSt x0) (_ : Wd D ca ad (layC cap) (AA ad (layC cap).length) s.heap s mem H locs) (_ : lv_has ls 6 [(0, .ref (ad x0)), (1, .int x1), (2, .int x2), (3, .int x3), (4, .int x4)]) (_ : fX5_find_b3  n mem x0 x1 x2 x3 x4 = some r), W p l e (rmx 0 0) s m args below meth c H locs 0 0 (EndQ D ca ad (layC cap) mem r below args s) (F0 m 3 ls []) := by
  intro n
  induction n with
  | zero => intro x0 x1 x2 x3 x4 H locs ls hx0 w hl h; exact (nofun : (none : Option (Option Nat)) = _ → _) h
  | succ n ih => intro x0 x1 x2 x3 x4 H locs ls hx0 w hl h; exact wX5_find_b3_s X M  ih hx0 w hl h
def fX5_find (mem : Mm) (a0 : Nat) (a1 : Int32) (a2 : Int32) (a3 : Int32) : Option (Option Nat) :=
  fX5_find_b3 2000 mem a0 a1 a2 a3 (0 : Int32)
set_option maxRecDepth 100000 in
set_option maxHeartbeats 4000000 in
theorem kX5_find {cap : Nat} (l : Launch) (D : va_G) (ca : Nat → ClassId) (ad : Nat → Nat) (mem : Mm) (a0 : Nat) (a1 : Int32) (a2 : Int32) (a3 : Int32) (h0 : isSt a0) {r : Option Nat} (h : fX5_find mem a0 a1 a2 a3 = some r) : CtQ l yX5_find cX5_find 6 (some (.object "WalkHouse$Place")) (rmx 0 0) D ca ad (layC cap) mem [.ref (ad a0), .int a1, .int a2, .int a3] mem r := by
  refine CtQ.of (by decide) (Nat.le_of_ble_eq_true rfl) ?_
  intro p e s m args below meth c H locs ls X M w hl
  replace X : CallFix p m c cX5_find 6 s args TT RX5 := X
  replace hl : lv_has ls 6 [(0, .ref (ad a0)), (1, .int a1), (2, .int a2), (3, .int a3)] := hl
  unfold fX5_find at h
  refine lv_iconst (v := (0 : Int32)) X.1 X.2.1 dX5_find_0 (by decide) ?_
  refine lv_istore (lv' := [(4, .int (0 : Int32)), (0, .ref (ad a0)), (1, .int a1), (2, .int a2), (3, .int a3)]) X.1 X.2.1 dX5_find_1 hl (by decide) rfl (fun ls hl => ?_)
  exact wX5_find_b3 X M _ _ _ _ _ _ H locs ls h0 w (lv_sub hl [1, 2, 3, 4, 0] rfl) h
/-! WalkHouse$Store.emptyOrOldest()LWalkHouse$Place; (R) -/
theorem hdX5_emptyOrOldest : yX5_emptyOrOldest.cls = RX5 ∧ yX5_emptyOrOldest.cls ≠ "java/lang/invoke/MethodHandle" ∧ yX5_emptyOrOldest.cls ≠ "java/lang/invoke/VarHandle" ∧ (parseMethodDescriptor yX5_emptyOrOldest.desc).map (fun d => d.parameters.length) = some 0 := by decide +kernel
def fX5_emptyOrOldest_b9_s  (k9 : Mm → Nat → Nat → Int32 → Option (Option Nat)) (mem : Mm) (x0 : Nat) (x1 : Nat) (x2 : Int32) : Option (Option Nat) :=
  if (6 : Int32) ≤ x2 then some (some x1) else gd x2 6 (lkN ((x0 + 1) + 1 + 1 * x2.toNatClampNeg) (fun b3 => if (mem b3 0) = 0 then gd x2 6 (lkN ((x0 + 1) + 1 + 1 * x2.toNatClampNeg) (fun b11 => some (some b11))) else gd x2 6 (lkN ((x0 + 1) + 1 + 1 * x2.toNatClampNeg) (fun b6 => if (mem x1 7) ≤ (mem b6 7) then k9 mem x0 x1 (x2 + (1 : Int32)) else gd x2 6 (lkN ((x0 + 1) + 1 + 1 * x2.toNatClampNeg) (fun b9 => k9 mem x0 b9 (x2 + (1 : Int32))))))))
def fX5_emptyOrOldest_b9  : Nat → Mm → Nat → Nat → Int32 → Option (Option Nat)
  | 0 => fun _ _ _ _ => none
  | n + 1 => fX5_emptyOrOldest_b9_s  (fX5_emptyOrOldest_b9  n)
set_option maxRecDepth 100000 in
set_option maxHeartbeats 4000000 in
theorem wX5_emptyOrOldest_b9_s {p : Program} {l : Launch} {e : Env} {s : State} {m : MethodId} {args : Array Value} {below : List Frame} {meth : Method} {c : Code} {D : va_G} {ca : Nat → ClassId} {ad : Nat → Nat} {cap : Nat} {H : Heap} {locs : List Loc} {ls : Array Slot} {mem : Mm} {x0 : Nat} {x1 : Nat} {x2 : Int32}  {k9 : Mm → Nat → Nat → Int32 → Option (Option Nat)} {r : Option Nat} (X : CallFix p m c cX5_emptyOrOldest 3 s args TT RX5) (M : Mt meth (some (.object "WalkHouse$Place")))  (hk9 : ∀ (x0 : Nat) (x1 : Nat) (x2 : Int32) (H : Heap) (locs : List Loc) (ls : Array Slot) (hx0 : isSt x0) (hx1 : isPl x1), Wd D ca ad (layC cap) (AA ad (layC cap).length) s.heap s mem H locs → lv_has ls 3 [(0, .ref (ad x0)), (1, .ref (ad x1)), (2, .int x2)] → k9 mem x0 x1 x2 = some r → W p l e (rmx 0 0) s m args below meth c H locs 0 0 (EndQ D ca ad (layC cap) mem r below args s) (F0 m 9 ls [])) (hx0 : isSt x0) (hx1 : isPl x1) (w : Wd D ca ad (layC cap) (AA ad (layC cap).length) s.heap s mem H locs) (hl : lv_has ls 3 [(0, .ref (ad x0)), (1, .ref (ad x1)), (2, .int x2)]) (h : fX5_emptyOrOldest_b9_s  k9 mem x0 x1 x2 = some r) : W p l e (rmx 0 0) s m args below meth c H locs 0 0 (EndQ D ca ad (layC cap) mem r below args s) (F0 m 9 ls []) := by
  unfold fX5_emptyOrOldest_b9_s at h
  refine lv_iload_n X.1 X.2.1 dX5_emptyOrOldest_9 rfl (lv_at hl 2 rfl) ?_
  refine lv_bipush (v := (6 : Int32)) X.1 X.2.1 dX5_emptyOrOldest_10 (by decide) ?_
  refine lv_icmp_ge (tgt := 63) X.1 X.2.1 dX5_emptyOrOldest_12 (by decide) (fun c1 => ?_) (fun c1 => ?_)
  · rw [if_pos c1] at h
    refine lv_aload_n X.1 X.2.1 dX5_emptyOrOldest_63 rfl (lv_at hl 1 rfl) ?_
    obtain rfl := Option.some.inj h
    exact r_aret (r := (some x1)) X M w dX5_emptyOrOldest_64
  · rw [if_neg c1] at h
    refine lv_aload_n X.1 X.2.1 dX5_emptyOrOldest_15 rfl (lv_at hl 0 rfl) ?_
    refine r_getr (b2 := (x0 + 1)) X w (lySt hx0) rfl inT5 0 rfl rfl (by decide) rfl tw_170 dX5_emptyOrOldest_16 ?_
    refine lv_iload_n X.1 X.2.1 dX5_emptyOrOldest_19 rfl (lv_at hl 2 rfl) ?_
    obtain ⟨hi2, h⟩ := gd_some h
    obtain ⟨b3, eb3, h⟩ := lkN_some h
    refine r_aald X w (t := 2) (lySA hx0) rfl hi2 eb3 dX5_emptyOrOldest_20 ?_
    have hb3 : isPl b3 := isPl_of hx0 hi2 eb3
    refine r_get X w (lyPl hb3) rfl inT3 0 rfl (by decide) rfl tw_134 dX5_emptyOrOldest_21 ?_
    refine lv_if_ne (tgt := 34) X.1 X.2.1 dX5_emptyOrOldest_24 (by decide) (fun c4 => ?_) (fun c4 => ?_)
    · rw [if_neg c4] at h
      refine lv_aload_n X.1 X.2.1 dX5_emptyOrOldest_34 rfl (lv_at hl 0 rfl) ?_
      refine r_getr (b2 := (x0 + 1)) X w (lySt hx0) rfl inT5 0 rfl rfl (by decide) rfl tw_170 dX5_emptyOrOldest_35 ?_
      refine lv_iload_n X.1 X.2.1 dX5_emptyOrOldest_38 rfl (lv_at hl 2 rfl) ?_
      obtain ⟨hi5, h⟩ := gd_some h
      obtain ⟨b6, eb6, h⟩ := lkN_some h
      refine r_aald X w (t := 2) (lySA hx0) rfl hi5 eb6 dX5_emptyOrOldest_39 ?_
      have hb6 : isPl b6 := isPl_of hx0 hi5 eb6
      refine r_get X w (lyPl hb6) rfl inT3 7 rfl (by decide) rfl tw_151 dX5_emptyOrOldest_40 ?_
      refine lv_aload_n X.1 X.2.1 dX5_emptyOrOldest_43 rfl (lv_at hl 1 rfl) ?_
      refine r_get X w (lyPl hx1) rfl inT3 7 rfl (by decide) rfl tw_151 dX5_emptyOrOldest_44 ?_
      refine lv_icmp_ge (tgt := 57) X.1 X.2.1 dX5_emptyOrOldest_47 (by decide) (fun c7 => ?_) (fun c7 => ?_)
      · rw [if_pos c7] at h
        refine lv_iinc (v := (x2 + (1 : Int32))) (lv' := [(2, .int (x2 + (1 : Int32))), (0, .ref (ad x0)), (1, .ref (ad x1))]) X.1 X.2.1 dX5_emptyOrOldest_57 hl (k := 2) rfl rfl (by decide) rfl (fun ls hl => ?_)
        refine lv_goto (tgt := 9) X.1 X.2.1 dX5_emptyOrOldest_60 (by decide) ?_
        exact hk9 _ _ _ H locs ls hx0 hx1 w (lv_sub hl [1, 2, 0] rfl) h
      · rw [if_neg c7] at h
        refine lv_aload_n X.1 X.2.1 dX5_emptyOrOldest_50 rfl (lv_at hl 0 rfl) ?_
        refine r_getr (b2 := (x0 + 1)) X w (lySt hx0) rfl inT5 0 rfl rfl (by decide) rfl tw_170 dX5_emptyOrOldest_51 ?_
        refine lv_iload_n X.1 X.2.1 dX5_emptyOrOldest_54 rfl (lv_at hl 2 rfl) ?_
        obtain ⟨hi8, h⟩ := gd_some h
        obtain ⟨b9, eb9, h⟩ := lkN_some h
        refine r_aald X w (t := 2) (lySA hx0) rfl hi8 eb9 dX5_emptyOrOldest_55 ?_
        have hb9 : isPl b9 := isPl_of hx0 hi8 eb9
        refine lv_astore_n (lv' := [(1, .ref (ad b9)), (0, .ref (ad x0)), (2, .int x2)]) X.1 X.2.1 dX5_emptyOrOldest_56 rfl hl (by decide) rfl (fun ls hl => ?_)
        refine lv_iinc (v := (x2 + (1 : Int32))) (lv' := [(2, .int (x2 + (1 : Int32))), (1, .ref (ad b9)), (0, .ref (ad x0))]) X.1 X.2.1 dX5_emptyOrOldest_57 hl (k := 2) rfl rfl (by decide) rfl (fun ls hl => ?_)
        refine lv_goto (tgt := 9) X.1 X.2.1 dX5_emptyOrOldest_60 (by decide) ?_
        exact hk9 _ _ _ H locs ls hx0 hb9 w (lv_sub hl [2, 1, 0] rfl) h
    · rw [if_pos c4] at h
      refine lv_aload_n X.1 X.2.1 dX5_emptyOrOldest_27 rfl (lv_at hl 0 rfl) ?_
      refine r_getr (b2 := (x0 + 1)) X w (lySt hx0) rfl inT5 0 rfl rfl (by decide) rfl tw_170 dX5_emptyOrOldest_28 ?_
      refine lv_iload_n X.1 X.2.1 dX5_emptyOrOldest_31 rfl (lv_at hl 2 rfl) ?_
      obtain ⟨hi10, h⟩ := gd_some h
      obtain ⟨b11, eb11, h⟩ := lkN_some h
      refine r_aald X w (t := 2) (lySA hx0) rfl hi10 eb11 dX5_emptyOrOldest_32 ?_
      have hb11 : isPl b11 := isPl_of hx0 hi10 eb11
      obtain rfl := Option.some.inj h
      exact r_aret (r := (some b11)) X M w dX5_emptyOrOldest_33
set_option maxRecDepth 100000 in
set_option maxHeartbeats 4000000 in
theorem wX5_emptyOrOldest_b9 {p : Program} {l : Launch} {e : Env} {s : State} {m : MethodId} {args : Array Value} {below : List Frame} {meth : Method} {c : Code} {D : va_G} {ca : Nat → ClassId} {ad : Nat → Nat} {cap : Nat} {mem : Mm}  {r : Option Nat} (X : CallFix p m c cX5_emptyOrOldest 3 s args TT RX5) (M : Mt meth (some (.object "WalkHouse$Place")))  : ∀ (n : Nat) (x0 : Nat) (x1 : Nat) (x2 : Int32) (H : Heap) (locs : List Loc) (ls : Array Slot) (hx0 : isSt x0) (hx1 : isPl x1) (_ : Wd D ca ad (layC cap) (AA ad (layC cap).length) s.heap s mem H locs) (_ : lv_has ls 3 [(0, .ref (ad x0)), (1, .ref (ad x1)), (2, .int x2)]) (_ : fX5_emptyOrOldest_b9  n mem x0 x1 x2 = some r), W p l e (rmx 0 0) s m args below meth c H locs 0 0 (EndQ D ca ad (layC cap) mem r below args s) (F0 m 9 ls []) := by
  intro n
  induction n with
  | zero => intro x0 x1 x2 H locs ls hx0 hx1 w hl h; exact (nofun : (none : Option (Option Nat)) = _ → _) h
  | succ n ih => intro x0 x1 x2 H locs ls hx0 hx1 w hl h; exact wX5_emptyOrOldest_b9_s X M  ih hx0 hx1 w hl h
def fX5_emptyOrOldest (mem : Mm) (a0 : Nat) : Option (Option Nat) :=
  gd (0 : Int32) 6 (lkN ((a0 + 1) + 1 + 1 * (0 : Int32).toNatClampNeg) (fun b2 => fX5_emptyOrOldest_b9 2000 mem a0 b2 (0 : Int32)))
set_option maxRecDepth 100000 in
set_option maxHeartbeats 4000000 in
theorem kX5_emptyOrOldest {cap : Nat} (l : Launch) (D : va_G) (ca : Nat → ClassId) (ad : Nat → Nat) (mem : Mm) (a0 : Nat) (h0 : isSt a0) {r : Option Nat} (h : fX5_emptyOrOldest mem a0 = some r) : CtQ l yX5_emptyOrOldest cX5_emptyOrOldest 3 (some (.object "WalkHouse$Place")) (rmx 0 0) D ca ad (layC cap) mem [.ref (ad a0)] mem r := by
  refine CtQ.of (by decide) (Nat.le_of_ble_eq_true rfl) ?_
  intro p e s m args below meth c H locs ls X M w hl
  replace X : CallFix p m c cX5_emptyOrOldest 3 s args TT RX5 := X
  replace hl : lv_has ls 3 [(0, .ref (ad a0))] := hl
  unfold fX5_emptyOrOldest at h
  refine lv_aload_n X.1 X.2.1 dX5_emptyOrOldest_0 rfl (lv_at hl 0 rfl) ?_
  refine r_getr (b2 := (a0 + 1)) X w (lySt h0) rfl inT5 0 rfl rfl (by decide) rfl tw_170 dX5_emptyOrOldest_1 ?_
  refine lv_iconst (v := (0 : Int32)) X.1 X.2.1 dX5_emptyOrOldest_4 (by decide) ?_
  obtain ⟨hi1, h⟩ := gd_some h
  obtain ⟨b2, eb2, h⟩ := lkN_some h
  refine r_aald X w (t := 2) (lySA h0) rfl hi1 eb2 dX5_emptyOrOldest_5 ?_
  have hb2 : isPl b2 := isPl_of h0 hi1 eb2
  refine lv_astore_n (lv' := [(1, .ref (ad b2)), (0, .ref (ad a0))]) X.1 X.2.1 dX5_emptyOrOldest_6 rfl hl (by decide) rfl (fun ls hl => ?_)
  refine lv_iconst (v := (0 : Int32)) X.1 X.2.1 dX5_emptyOrOldest_7 (by decide) ?_
  refine lv_istore_n (lv' := [(2, .int (0 : Int32)), (1, .ref (ad b2)), (0, .ref (ad a0))]) X.1 X.2.1 dX5_emptyOrOldest_8 rfl hl (by decide) rfl (fun ls hl => ?_)
  exact wX5_emptyOrOldest_b9 X M _ _ _ _ H locs ls h0 hb2 w (lv_sub hl [2, 1, 0] rfl) h
/-! WalkHouse$Store.take(III)LWalkHouse$Place; (W) -/
theorem hdX5_take : yX5_take.cls = RX5 ∧ yX5_take.cls ≠ "java/lang/invoke/MethodHandle" ∧ yX5_take.cls ≠ "java/lang/invoke/VarHandle" ∧ (parseMethodDescriptor yX5_take.desc).map (fun d => d.parameters.length) = some 3 := by decide +kernel
def fX5_take_b20  (mem : Mm) (x0 : Nat) (x1 : Int32) (x2 : Int32) (x3 : Int32) (x4 : Option Nat) : Option (Mm × Option Nat) :=
  oc x4 (none) (fun b1 => wk mem b1 0 (1 : Int32) (fun m2 => wk m2 b1 1 x1 (fun m3 => wk m3 b1 2 x2 (fun m4 => wk m4 b1 3 x3 (fun m5 => bw (fX5_touch m5 x0 b1) (fun m7 r6 => some (m7, (some b1))))))))
set_option maxRecDepth 100000 in
set_option maxHeartbeats 4000000 in
theorem wX5_take_b20 {p : Program} {l : Launch} {e : Env} {s : State} {m : MethodId} {args : Array Value} {below : List Frame} {meth : Method} {c : Code} {D : va_G} {ca : Nat → ClassId} {ad : Nat → Nat} {cap : Nat} {H : Heap} {locs : List Loc} {ls : Array Slot} {mem : Mm} {x0 : Nat} {x1 : Int32} {x2 : Int32} {x3 : Int32} {x4 : Option Nat}  {mem' : Mm} {r : Option Nat} (X : CallFix p m c cX5_take 5 s args TT RX5) (M : Mt meth (some (.object "WalkHouse$Place")))  (hx0 : isSt x0) (w : Wd D ca ad (layC cap) (AA ad (layC cap).length) s.heap s mem H locs) (hl : lv_has ls 5 [(0, .ref (ad x0)), (1, .int x1), (2, .int x2), (3, .int x3), (4, va_rf (Option.map ad x4))]) (h : fX5_take_b20  mem x0 x1 x2 x3 x4 = some (mem', r)) : W p l e (rmx 1 25) s m args below meth c H locs 0 0 (EndQ D ca ad (layC cap) mem' r below args s) (F0 m 20 ls []) := by
  unfold fX5_take_b20 at h
  rcases x4 with _ | b1
  · have h := oc_n h
    refine lv_aloadN X.1 X.2.1 dX5_take_20 (lv_at hl 4 rfl) ?_
    refine lv_iconst (v := (1 : Int32)) X.1 X.2.1 dX5_take_22 (by decide) ?_
    cases h
  · obtain ⟨hb1, h⟩ := oc_s h
    refine lv_aload X.1 X.2.1 dX5_take_20 (lv_at hl 4 rfl) ?_
    refine lv_iconst (v := (1 : Int32)) X.1 X.2.1 dX5_take_22 (by decide) ?_
    refine r_put X w (lyPl hb1) rfl inT3 tyX3 tyX3_ok nmX3 0 rfl (by decide) rfl rfl tw_134 rfl rfl dX5_take_23 (fun H locs w => ?_)
    obtain ⟨m2, em2, h⟩ := wk_some h
    rw [em2] at w
    refine lv_aload X.1 X.2.1 dX5_take_26 (lv_at hl 4 rfl) ?_
    refine lv_iload_n X.1 X.2.1 dX5_take_28 rfl (lv_at hl 1 rfl) ?_
    refine r_put X w (lyPl hb1) rfl inT3 tyX3 tyX3_ok nmX3 1 rfl (by decide) rfl rfl tw_136 rfl rfl dX5_take_29 (fun H locs w => ?_)
    obtain ⟨m3, em3, h⟩ := wk_some h
    rw [em3] at w
    refine lv_aload X.1 X.2.1 dX5_take_32 (lv_at hl 4 rfl) ?_
    refine lv_iload_n X.1 X.2.1 dX5_take_34 rfl (lv_at hl 2 rfl) ?_
    refine r_put X w (lyPl hb1) rfl inT3 tyX3 tyX3_ok nmX3 2 rfl (by decide) rfl rfl tw_140 rfl rfl dX5_take_35 (fun H locs w => ?_)
    obtain ⟨m4, em4, h⟩ := wk_some h
    rw [em4] at w
    refine lv_aload X.1 X.2.1 dX5_take_38 (lv_at hl 4 rfl) ?_
    refine lv_iload_n X.1 X.2.1 dX5_take_40 rfl (lv_at hl 3 rfl) ?_
    refine r_put X w (lyPl hb1) rfl inT3 tyX3 tyX3_ok nmX3 3 rfl (by decide) rfl rfl tw_143 rfl rfl dX5_take_41 (fun H locs w => ?_)
    obtain ⟨m5, em5, h⟩ := wk_some h
    rw [em5] at w
    refine lv_aload_n X.1 X.2.1 dX5_take_44 rfl (lv_at hl 0 rfl) ?_
    refine lv_aload X.1 X.2.1 dX5_take_45 (lv_at hl 4 rfl) ?_
    obtain ⟨m7, r6, hr6, h⟩ := bw_some h
    refine r_cVv (As := [.ref (ad b1)]) (rest := []) X w (lySt hx0) rfl (kX5_touch (cap := cap) l D ca ad m5 x0 b1 hx0 hb1 hr6) (gTV tw_564 tw_484 tw_485 tw_68 tw_486) hdX5_touch (by decide) rfl hl.1 rfl (Nat.le_of_ble_eq_true rfl) dX5_take_47 ⟨Nat.zero_le _, Nat.zero_le _⟩ (fun H locs w => ?_)
    refine lv_aload X.1 X.2.1 dX5_take_50 (lv_at hl 4 rfl) ?_
    obtain ⟨rfl, rfl⟩ := Prod.mk.inj (Option.some.inj h)
    exact r_aret (r := (some b1)) X M w dX5_take_52
def fX5_take (mem : Mm) (a0 : Nat) (a1 : Int32) (a2 : Int32) (a3 : Int32) : Option (Mm × Option Nat) :=
  bd (fX5_find mem a0 a1 a2 a3) (fun r1 => oc r1 (bd (fX5_emptyOrOldest mem a0) (fun r3 => oc r3 (fX5_take_b20 mem a0 a1 a2 a3 none) (fun b4 => fX5_take_b20 mem a0 a1 a2 a3 (some b4)))) (fun b2 => fX5_take_b20 mem a0 a1 a2 a3 (some b2)))
set_option maxRecDepth 100000 in
set_option maxHeartbeats 4000000 in
theorem kX5_take {cap : Nat} (l : Launch) (D : va_G) (ca : Nat → ClassId) (ad : Nat → Nat) (mem : Mm) (a0 : Nat) (a1 : Int32) (a2 : Int32) (a3 : Int32) (h0 : isSt a0) {mem' : Mm} {r : Option Nat} (h : fX5_take mem a0 a1 a2 a3 = some (mem', r)) : CtQ l yX5_take cX5_take 5 (some (.object "WalkHouse$Place")) (rmx 1 25) D ca ad (layC cap) mem [.ref (ad a0), .int a1, .int a2, .int a3] mem' r := by
  refine CtQ.of (by decide) (Nat.le_of_ble_eq_true rfl) ?_
  intro p e s m args below meth c H locs ls X M w hl
  replace X : CallFix p m c cX5_take 5 s args TT RX5 := X
  replace hl : lv_has ls 5 [(0, .ref (ad a0)), (1, .int a1), (2, .int a2), (3, .int a3)] := hl
  unfold fX5_take at h
  refine lv_aload_n X.1 X.2.1 dX5_take_0 rfl (lv_at hl 0 rfl) ?_
  refine lv_iload_n X.1 X.2.1 dX5_take_1 rfl (lv_at hl 1 rfl) ?_
  refine lv_iload_n X.1 X.2.1 dX5_take_2 rfl (lv_at hl 2 rfl) ?_
  refine lv_iload_n X.1 X.2.1 dX5_take_3 rfl (lv_at hl 3 rfl) ?_
  obtain ⟨r1, hr1, h⟩ := bd_some h
  refine r_cVq (As := [.int a1, .int a2, .int a3]) (rest := []) X w (lySt h0) rfl (kX5_find (cap := cap) l D ca ad mem a0 a1 a2 a3 h0 hr1) (gTV tw_559 tw_511 tw_512 tw_68 tw_513) hdX5_find (by decide) rfl hl.1 rfl (Nat.le_of_ble_eq_true rfl) dX5_take_4 ⟨Nat.zero_le _, Nat.zero_le _⟩ (fun H locs w => ?_)
  rcases r1 with _ | b2
  · have h := oc_n h
    refine lv_astoreN (lv' := [(4, .null), (0, .ref (ad a0)), (1, .int a1), (2, .int a2), (3, .int a3)]) X.1 X.2.1 dX5_take_7 hl (by decide) rfl (fun ls hl => ?_)
    refine lv_aloadN X.1 X.2.1 dX5_take_9 (lv_at hl 0 rfl) ?_
    refine lv_ifnonnullN X.1 X.2.1 dX5_take_11 ?_
    refine lv_aload_n X.1 X.2.1 dX5_take_14 rfl (lv_at hl 1 rfl) ?_
    obtain ⟨r3, hr3, h⟩ := bd_some h
    refine r_cVq (As := []) (rest := []) X w (lySt h0) rfl (kX5_emptyOrOldest (cap := cap) l D ca ad mem a0 h0 hr3) (gTV tw_560 tw_561 tw_562 tw_68 tw_563) hdX5_emptyOrOldest (by decide) rfl hl.1 rfl (Nat.le_of_ble_eq_true rfl) dX5_take_15 ⟨Nat.zero_le _, Nat.zero_le _⟩ (fun H locs w => ?_)
    rcases r3 with _ | b4
    · have h := oc_n h
      refine lv_astoreN (lv' := [(4, .null), (0, .ref (ad a0)), (1, .int a1), (2, .int a2), (3, .int a3)]) X.1 X.2.1 dX5_take_18 hl (by decide) rfl (fun ls hl => ?_)
      exact wX5_take_b20 X M h0 w (lv_sub hl [1, 2, 3, 4, 0] rfl) h
    · obtain ⟨hb4, h⟩ := oc_s h
      refine lv_astore (lv' := [(4, .ref (ad b4)), (0, .ref (ad a0)), (1, .int a1), (2, .int a2), (3, .int a3)]) X.1 X.2.1 dX5_take_18 hl (by decide) rfl (fun ls hl => ?_)
      exact wX5_take_b20 X M h0 w (lv_sub hl [1, 2, 3, 4, 0] rfl) h
  · obtain ⟨hb2, h⟩ := oc_s h
    refine lv_astore (lv' := [(4, .ref (ad b2)), (0, .ref (ad a0)), (1, .int a1), (2, .int a2), (3, .int a3)]) X.1 X.2.1 dX5_take_7 hl (by decide) rfl (fun ls hl => ?_)
    refine lv_aload X.1 X.2.1 dX5_take_9 (lv_at hl 0 rfl) ?_
    refine lv_ifnonnull (tgt := 20) X.1 X.2.1 dX5_take_11 (by decide) ?_
    exact wX5_take_b20 X M h0 w (lv_sub hl [1, 2, 3, 4, 0] rfl) h
