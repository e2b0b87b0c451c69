/-! WalkHouse$Changes() -/
theorem hdX0_init : yX0_init.cls ≠ "java/lang/invoke/MethodHandle" ∧ yX0_init.cls ≠ "java/lang/invoke/VarHandle" ∧ (parseMethodDescriptor yX0_init.desc).map (fun d => d.parameters.length) = some 0 := by decide +kernel
set_option maxRecDepth 100000 in
set_option maxHeartbeats 4000000 in
theorem kX0_init (l : Launch) (D : va_G) (ca : Nat → ClassId) (h0 sz : Nat) : CtN l yX0_init cX0_init 1 { frames := 1, cells := 2, slots := 80, locals := 20 } D ca h0 sz [(h0, .inr (0, [.null, .null, .int 0]))] (fun _ => True) (fun u => [(h0, .inr (0, [.ref (u 1), .ref (u 2), .int 0])), ((u 1), .inl (ca 0, 40, .inl (fun _ => 0))), ((u 2), .inl (ca 0, 40, .inl (fun _ => 0)))]) 2 80 := by
  refine CtN.of (by decide) (by decide) rfl ?_
  intro p e s m args below meth c ls X M hnm hsz w hl
  subst hsz
  replace X : CallFix p m c cX0_init 1 s args TT RX0 := X
  obtain ⟨H, hH⟩ : ∃ H, s.heap = H := ⟨_, rfl⟩
  replace w : Wn D ca (va_A [(h0, .inr (0, [.null, .null, .int 0]))] s.heap.size) s.heap s [(h0, .inr (0, [.null, .null, .int 0]))] H [] := hH ▸ w
  refine hW_start hH ?_
  refine lv_aload_n X.1 X.2.1 dX0_init_0 rfl (lv_at hl 0 rfl) ?_
  refine W.objInit X.1 X.2.1 X.2.2.2.1 (X.2.2.2.2 _ tw_266) (X.2.2.2.2 _ tw_89) (X.2.2.2.2 _ obC) rfl (by rw [X.2.2.1]; exact hl.1) rfl dX0_init_1 (by decide) (Nat.le_of_ble_eq_true rfl) ?_
  refine W.eq (g2 := F0 m 4 ls []) rfl ?_
  refine lv_aload_n X.1 X.2.1 dX0_init_4 rfl (lv_at hl 0 rfl) ?_
  refine lv_bipush (v := (40 : Int32)) X.1 X.2.1 dX0_init_5 (by decide) ?_
  refine n_newa X w 40 tw_119 (by decide) (by decide) (by decide) (Nat.le_of_ble_eq_true rfl) (Nat.le_of_ble_eq_true rfl) dX0_init_7 (fun q1 H w => ?_)
  replace w : Wn D ca (va_A [(h0, .inr (0, [.null, .null, .int 0]))] s.heap.size) s.heap s [(h0, .inr (0, [.null, .null, .int 0])), (q1, .inl (ca 0, 40, .inl (fun _ => 0)))] H [] := w
  refine n_putF X w hnm 0 rfl rfl inT0 tyX0 tyX0_ok nmX0 0 (by decide) rfl rfl rfl tw_267 rfl rfl (Nat.le_of_ble_eq_true rfl) dX0_init_9 (fun H locs w => ?_)
  replace w : Wn D ca (va_A [(h0, .inr (0, [.null, .null, .int 0]))] s.heap.size) s.heap s [(h0, .inr (0, [.ref q1, .null, .int 0])), (q1, .inl (ca 0, 40, .inl (fun _ => 0)))] H locs := w
  refine lv_aload_n X.1 X.2.1 dX0_init_12 rfl (lv_at hl 0 rfl) ?_
  refine lv_bipush (v := (40 : Int32)) X.1 X.2.1 dX0_init_13 (by decide) ?_
  refine n_newa X w 40 tw_119 (by decide) (by decide) (by decide) (Nat.le_of_ble_eq_true rfl) (Nat.le_of_ble_eq_true rfl) dX0_init_15 (fun q2 H w => ?_)
  replace w : Wn D ca (va_A [(h0, .inr (0, [.null, .null, .int 0]))] s.heap.size) s.heap s [(h0, .inr (0, [.ref q1, .null, .int 0])), (q1, .inl (ca 0, 40, .inl (fun _ => 0))), (q2, .inl (ca 0, 40, .inl (fun _ => 0)))] H locs := w
  refine n_putF X w hnm 0 rfl rfl inT0 tyX0 tyX0_ok nmX0 1 (by decide) rfl rfl rfl tw_268 rfl rfl (Nat.le_of_ble_eq_true rfl) dX0_init_17 (fun H locs w => ?_)
  replace w : Wn D ca (va_A [(h0, .inr (0, [.null, .null, .int 0]))] s.heap.size) s.heap s [(h0, .inr (0, [.ref q1, .ref q2, .int 0])), (q1, .inl (ca 0, 40, .inl (fun _ => 0))), (q2, .inl (ca 0, 40, .inl (fun _ => 0)))] H locs := w
  exact n_vret (h0 := h0) X M w (fun k => [h0, q1, q2].getD k 0) trivial [0, 1, 2] rfl rfl rfl dX0_init_20
/-! WalkHouse$Fences() -/
theorem hdX1_init : yX1_init.cls ≠ "java/lang/invoke/MethodHandle" ∧ yX1_init.cls ≠ "java/lang/invoke/VarHandle" ∧ (parseMethodDescriptor yX1_init.desc).map (fun d => d.parameters.length) = some 0 := by decide +kernel
set_option maxRecDepth 100000 in
set_option maxHeartbeats 4000000 in
theorem kX1_init (l : Launch) (D : va_G) (ca : Nat → ClassId) (h0 sz : Nat) : CtN l yX1_init cX1_init 1 { frames := 1, cells := 3, slots := 22, locals := 20 } D ca h0 sz [(h0, .inr (1, [.null, .int 0, .null, .null, .int 0]))] (fun _ => True) (fun u => [(h0, .inr (1, [.ref (u 1), .int 0, .ref (u 2), .ref (u 3), .int 0])), ((u 1), .inl (ca 0, 6, .inl (fun _ => 0))), ((u 2), .inl (ca 0, 8, .inl (fun _ => 0))), ((u 3), .inl (ca 0, 8, .inl (fun _ => 0)))]) 3 22 := by
  refine CtN.of (by decide) (by decide) rfl ?_
  intro p e s m args below meth c ls X M hnm hsz w hl
  subst hsz
  replace X : CallFix p m c cX1_init 1 s args TT RX1 := X
  obtain ⟨H, hH⟩ : ∃ H, s.heap = H := ⟨_, rfl⟩
  replace w : Wn D ca (va_A [(h0, .inr (1, [.null, .int 0, .null, .null, .int 0]))] s.heap.size) s.heap s [(h0, .inr (1, [.null, .int 0, .null, .null, .int 0]))] H [] := hH ▸ w
  refine hW_start hH ?_
  refine lv_aload_n X.1 X.2.1 dX1_init_0 rfl (lv_at hl 0 rfl) ?_
  refine W.objInit X.1 X.2.1 X.2.2.2.1 (X.2.2.2.2 _ tw_283) (X.2.2.2.2 _ tw_89) (X.2.2.2.2 _ obC) rfl (by rw [X.2.2.1]; exact hl.1) rfl dX1_init_1 (by decide) (Nat.le_of_ble_eq_true rfl) ?_
  refine W.eq (g2 := F0 m 4 ls []) rfl ?_
  refine lv_aload_n X.1 X.2.1 dX1_init_4 rfl (lv_at hl 0 rfl) ?_
  refine lv_bipush (v := (6 : Int32)) X.1 X.2.1 dX1_init_5 (by decide) ?_
  refine n_newa X w 6 tw_119 (by decide) (by decide) (by decide) (Nat.le_of_ble_eq_true rfl) (Nat.le_of_ble_eq_true rfl) dX1_init_7 (fun q1 H w => ?_)
  replace w : Wn D ca (va_A [(h0, .inr (1, [.null, .int 0, .null, .null, .int 0]))] s.heap.size) s.heap s [(h0, .inr (1, [.null, .int 0, .null, .null, .int 0])), (q1, .inl (ca 0, 6, .inl (fun _ => 0)))] H [] := w
  refine n_putF X w hnm 0 rfl rfl inT1 tyX1 tyX1_ok nmX1 0 (by decide) rfl rfl rfl tw_284 rfl rfl (Nat.le_of_ble_eq_true rfl) dX1_init_9 (fun H locs w => ?_)
  replace w : Wn D ca (va_A [(h0, .inr (1, [.null, .int 0, .null, .null, .int 0]))] s.heap.size) s.heap s [(h0, .inr (1, [.ref q1, .int 0, .null, .null, .int 0])), (q1, .inl (ca 0, 6, .inl (fun _ => 0)))] H locs := w
  refine lv_aload_n X.1 X.2.1 dX1_init_12 rfl (lv_at hl 0 rfl) ?_
  refine lv_bipush (v := (8 : Int32)) X.1 X.2.1 dX1_init_13 (by decide) ?_
  refine n_newa X w 8 tw_119 (by decide) (by decide) (by decide) (Nat.le_of_ble_eq_true rfl) (Nat.le_of_ble_eq_true rfl) dX1_init_15 (fun q2 H w => ?_)
  replace w : Wn D ca (va_A [(h0, .inr (1, [.null, .int 0, .null, .null, .int 0]))] s.heap.size) s.heap s [(h0, .inr (1, [.ref q1, .int 0, .null, .null, .int 0])), (q1, .inl (ca 0, 6, .inl (fun _ => 0))), (q2, .inl (ca 0, 8, .inl (fun _ => 0)))] H locs := w
  refine n_put X w 0 rfl rfl inT1 tyX1 tyX1_ok nmX1 2 (by decide) rfl rfl tw_288 rfl rfl (Nat.le_of_ble_eq_true rfl) dX1_init_17 (fun H locs w => ?_)
  replace w : Wn D ca (va_A [(h0, .inr (1, [.null, .int 0, .null, .null, .int 0]))] s.heap.size) s.heap s [(h0, .inr (1, [.ref q1, .int 0, .ref q2, .null, .int 0])), (q1, .inl (ca 0, 6, .inl (fun _ => 0))), (q2, .inl (ca 0, 8, .inl (fun _ => 0)))] H locs := w
  refine lv_aload_n X.1 X.2.1 dX1_init_20 rfl (lv_at hl 0 rfl) ?_
  refine lv_bipush (v := (8 : Int32)) X.1 X.2.1 dX1_init_21 (by decide) ?_
  refine n_newa X w 8 tw_119 (by decide) (by decide) (by decide) (Nat.le_of_ble_eq_true rfl) (Nat.le_of_ble_eq_true rfl) dX1_init_23 (fun q3 H w => ?_)
  replace w : Wn D ca (va_A [(h0, .inr (1, [.null, .int 0, .null, .null, .int 0]))] s.heap.size) s.heap s [(h0, .inr (1, [.ref q1, .int 0, .ref q2, .null, .int 0])), (q1, .inl (ca 0, 6, .inl (fun _ => 0))), (q2, .inl (ca 0, 8, .inl (fun _ => 0))), (q3, .inl (ca 0, 8, .inl (fun _ => 0)))] H locs := w
  refine n_put X w 0 rfl rfl inT1 tyX1 tyX1_ok nmX1 3 (by decide) rfl rfl tw_289 rfl rfl (Nat.le_of_ble_eq_true rfl) dX1_init_25 (fun H locs w => ?_)
  replace w : Wn D ca (va_A [(h0, .inr (1, [.null, .int 0, .null, .null, .int 0]))] s.heap.size) s.heap s [(h0, .inr (1, [.ref q1, .int 0, .ref q2, .ref q3, .int 0])), (q1, .inl (ca 0, 6, .inl (fun _ => 0))), (q2, .inl (ca 0, 8, .inl (fun _ => 0))), (q3, .inl (ca 0, 8, .inl (fun _ => 0)))] H locs := w
  exact n_vret (h0 := h0) X M w (fun k => [h0, q1, q2, q3].getD k 0) trivial [0, 1, 2, 3] rfl rfl rfl dX1_init_28
/-! WalkHouse$FrameSet() -/
theorem hdX2_init : yX2_init.cls ≠ "java/lang/invoke/MethodHandle" ∧ yX2_init.cls ≠ "java/lang/invoke/VarHandle" ∧ (parseMethodDescriptor yX2_init.desc).map (fun d => d.parameters.length) = some 0 := by decide +kernel
set_option maxRecDepth 100000 in
set_option maxHeartbeats 4000000 in
theorem kX2_init (l : Launch) (D : va_G) (ca : Nat → ClassId) (h0 sz : Nat) : CtN l yX2_init cX2_init 1 { frames := 1, cells := 1, slots := 34, locals := 20 } D ca h0 sz [(h0, .inr (2, [.null]))] (fun _ => True) (fun u => [(h0, .inr (2, [.ref (u 1)])), ((u 1), .inl (ca 0, 34, .inl (fun _ => 0)))]) 1 34 := by
  refine CtN.of (by decide) (by decide) rfl ?_
  intro p e s m args below meth c ls X M hnm hsz w hl
  subst hsz
  replace X : CallFix p m c cX2_init 1 s args TT RX2 := X
  obtain ⟨H, hH⟩ : ∃ H, s.heap = H := ⟨_, rfl⟩
  replace w : Wn D ca (va_A [(h0, .inr (2, [.null]))] s.heap.size) s.heap s [(h0, .inr (2, [.null]))] H [] := hH ▸ w
  refine hW_start hH ?_
  refine lv_aload_n X.1 X.2.1 dX2_init_0 rfl (lv_at hl 0 rfl) ?_
  refine W.objInit X.1 X.2.1 X.2.2.2.1 (X.2.2.2.2 _ tw_307) (X.2.2.2.2 _ tw_89) (X.2.2.2.2 _ obC) rfl (by rw [X.2.2.1]; exact hl.1) rfl dX2_init_1 (by decide) (Nat.le_of_ble_eq_true rfl) ?_
  refine W.eq (g2 := F0 m 4 ls []) rfl ?_
  refine lv_aload_n X.1 X.2.1 dX2_init_4 rfl (lv_at hl 0 rfl) ?_
  refine lv_bipush (v := (34 : Int32)) X.1 X.2.1 dX2_init_5 (by decide) ?_
  refine n_newa X w 34 tw_119 (by decide) (by decide) (by decide) (Nat.le_of_ble_eq_true rfl) (Nat.le_of_ble_eq_true rfl) dX2_init_7 (fun q1 H w => ?_)
  replace w : Wn D ca (va_A [(h0, .inr (2, [.null]))] s.heap.size) s.heap s [(h0, .inr (2, [.null])), (q1, .inl (ca 0, 34, .inl (fun _ => 0)))] H [] := w
  refine n_putF X w hnm 0 rfl rfl inT2 tyX2 tyX2_ok nmX2 0 (by decide) rfl rfl rfl tw_308 rfl rfl (Nat.le_of_ble_eq_true rfl) dX2_init_9 (fun H locs w => ?_)
  replace w : Wn D ca (va_A [(h0, .inr (2, [.null]))] s.heap.size) s.heap s [(h0, .inr (2, [.ref q1])), (q1, .inl (ca 0, 34, .inl (fun _ => 0)))] H locs := w
  exact n_vret (h0 := h0) X M w (fun k => [h0, q1].getD k 0) trivial [0, 1] rfl rfl rfl dX2_init_12
/-! WalkHouse$Place() -/
theorem hdX3_init : yX3_init.cls ≠ "java/lang/invoke/MethodHandle" ∧ yX3_init.cls ≠ "java/lang/invoke/VarHandle" ∧ (parseMethodDescriptor yX3_init.desc).map (fun d => d.parameters.length) = some 0 := by decide +kernel
set_option maxRecDepth 100000 in
set_option maxHeartbeats 4000000 in
theorem kX3_init (l : Launch) (D : va_G) (ca : Nat → ClassId) (h0 sz : Nat) : CtN l yX3_init cX3_init 1 { frames := 1, cells := 0, slots := 0, locals := 20 } D ca h0 sz [(h0, .inr (3, [.int 0, .int 0, .int 0, .int 0, .int 0, .int 0, .int 0, .int 0]))] (fun _ => True) (fun u => [(h0, .inr (3, [.int 0, .int 0, .int 0, .int 0, .int 0, .int 0, .int 0, .int 0]))]) 0 0 := by
  refine CtN.of (by decide) (by decide) rfl ?_
  intro p e s m args below meth c ls X M hnm hsz w hl
  subst hsz
  replace X : CallFix p m c cX3_init 1 s args TT RX3 := X
  obtain ⟨H, hH⟩ : ∃ H, s.heap = H := ⟨_, rfl⟩
  replace w : Wn D ca (va_A [(h0, .inr (3, [.int 0, .int 0, .int 0, .int 0, .int 0, .int 0, .int 0, .int 0]))] s.heap.size) s.heap s [(h0, .inr (3, [.int 0, .int 0, .int 0, .int 0, .int 0, .int 0, .int 0, .int 0]))] H [] := hH ▸ w
  refine hW_start hH ?_
  refine lv_aload_n X.1 X.2.1 dX3_init_0 rfl (lv_at hl 0 rfl) ?_
  refine W.objInit X.1 X.2.1 X.2.2.2.1 (X.2.2.2.2 _ tw_132) (X.2.2.2.2 _ tw_89) (X.2.2.2.2 _ obC) rfl (by rw [X.2.2.1]; exact hl.1) rfl dX3_init_1 (by decide) (Nat.le_of_ble_eq_true rfl) ?_
  refine W.eq (g2 := F0 m 4 ls []) rfl ?_
  exact n_vret (h0 := h0) X M w (fun k => [h0].getD k 0) trivial [0] rfl rfl rfl dX3_init_4
/-! WalkHouse$Spaces() -/
theorem hdX4_init : yX4_init.cls ≠ "java/lang/invoke/MethodHandle" ∧ yX4_init.cls ≠ "java/lang/invoke/VarHandle" ∧ (parseMethodDescriptor yX4_init.desc).map (fun d => d.parameters.length) = some 0 := by decide +kernel
set_option maxRecDepth 100000 in
set_option maxHeartbeats 4000000 in
theorem kX4_init (l : Launch) (D : va_G) (ca : Nat → ClassId) (h0 sz : Nat) : CtN l yX4_init cX4_init 1 { frames := 1, cells := 3, slots := 18, locals := 23 } D ca h0 sz [(h0, .inr (4, [.null, .null, .null, .int 0, .int 0]))] (fun _ => True) (fun u => [(h0, .inr (4, [.ref (u 2), .ref (u 3), .ref (u 1), .int 0, .int (-1 : Int32)])), ((u 1), .inl (ca 0, 6, .inl (fun _ => 0))), ((u 2), .inl (ca 0, 6, .inl (flm (fun _ => (fun _ => 0)) 6 0 (-1 : Int32) 0))), ((u 3), .inl (ca 0, 6, .inl (flm (fun _ => (fun _ => 0)) 6 0 (-1 : Int32) 0)))]) 3 18 := by
  refine CtN.of (by decide) (by decide) rfl ?_
  intro p e s m args below meth c ls X M hnm hsz w hl
  subst hsz
  replace X : CallFix p m c cX4_init 1 s args TT RX4 := X
  obtain ⟨H, hH⟩ : ∃ H, s.heap = H := ⟨_, rfl⟩
  replace w : Wn D ca (va_A [(h0, .inr (4, [.null, .null, .null, .int 0, .int 0]))] s.heap.size) s.heap s [(h0, .inr (4, [.null, .null, .null, .int 0, .int 0]))] H [] := hH ▸ w
  refine hW_start hH ?_
  refine lv_aload_n X.1 X.2.1 dX4_init_0 rfl (lv_at hl 0 rfl) ?_
  refine W.objInit X.1 X.2.1 X.2.2.2.1 (X.2.2.2.2 _ tw_96) (X.2.2.2.2 _ tw_89) (X.2.2.2.2 _ obC) rfl (by rw [X.2.2.1]; exact hl.1) rfl dX4_init_1 (by decide) (Nat.le_of_ble_eq_true rfl) ?_
  refine W.eq (g2 := F0 m 4 ls []) rfl ?_
  refine lv_aload_n X.1 X.2.1 dX4_init_4 rfl (lv_at hl 0 rfl) ?_
  refine lv_bipush (v := (6 : Int32)) X.1 X.2.1 dX4_init_5 (by decide) ?_
  refine n_newa X w 6 tw_119 (by decide) (by decide) (by decide) (Nat.le_of_ble_eq_true rfl) (Nat.le_of_ble_eq_true rfl) dX4_init_7 (fun q1 H w => ?_)
  replace w : Wn D ca (va_A [(h0, .inr (4, [.null, .null, .null, .int 0, .int 0]))] s.heap.size) s.heap s [(h0, .inr (4, [.null, .null, .null, .int 0, .int 0])), (q1, .inl (ca 0, 6, .inl (fun _ => 0)))] H [] := w
  refine n_putF X w hnm 0 rfl rfl inT4 tyX4 tyX4_ok nmX4 0 (by decide) rfl rfl rfl tw_100 rfl rfl (Nat.le_of_ble_eq_true rfl) dX4_init_9 (fun H locs w => ?_)
  replace w : Wn D ca (va_A [(h0, .inr (4, [.null, .null, .null, .int 0, .int 0]))] s.heap.size) s.heap s [(h0, .inr (4, [.ref q1, .null, .null, .int 0, .int 0])), (q1, .inl (ca 0, 6, .inl (fun _ => 0)))] H locs := w
  refine lv_aload_n X.1 X.2.1 dX4_init_12 rfl (lv_at hl 0 rfl) ?_
  refine lv_bipush (v := (6 : Int32)) X.1 X.2.1 dX4_init_13 (by decide) ?_
  refine n_newa X w 6 tw_119 (by decide) (by decide) (by decide) (Nat.le_of_ble_eq_true rfl) (Nat.le_of_ble_eq_true rfl) dX4_init_15 (fun q2 H w => ?_)
  replace w : Wn D ca (va_A [(h0, .inr (4, [.null, .null, .null, .int 0, .int 0]))] s.heap.size) s.heap s [(h0, .inr (4, [.ref q1, .null, .null, .int 0, .int 0])), (q1, .inl (ca 0, 6, .inl (fun _ => 0))), (q2, .inl (ca 0, 6, .inl (fun _ => 0)))] H locs := w
  refine n_putF X w hnm 0 rfl rfl inT4 tyX4 tyX4_ok nmX4 1 (by decide) rfl rfl rfl tw_102 rfl rfl (Nat.le_of_ble_eq_true rfl) dX4_init_17 (fun H locs w => ?_)
  replace w : Wn D ca (va_A [(h0, .inr (4, [.null, .null, .null, .int 0, .int 0]))] s.heap.size) s.heap s [(h0, .inr (4, [.ref q1, .ref q2, .null, .int 0, .int 0])), (q1, .inl (ca 0, 6, .inl (fun _ => 0))), (q2, .inl (ca 0, 6, .inl (fun _ => 0)))] H locs := w
  refine lv_aload_n X.1 X.2.1 dX4_init_20 rfl (lv_at hl 0 rfl) ?_
  refine lv_bipush (v := (6 : Int32)) X.1 X.2.1 dX4_init_21 (by decide) ?_
  refine n_newa X w 6 tw_119 (by decide) (by decide) (by decide) (Nat.le_of_ble_eq_true rfl) (Nat.le_of_ble_eq_true rfl) dX4_init_23 (fun q3 H w => ?_)
  replace w : Wn D ca (va_A [(h0, .inr (4, [.null, .null, .null, .int 0, .int 0]))] s.heap.size) s.heap s [(h0, .inr (4, [.ref q1, .ref q2, .null, .int 0, .int 0])), (q1, .inl (ca 0, 6, .inl (fun _ => 0))), (q2, .inl (ca 0, 6, .inl (fun _ => 0))), (q3, .inl (ca 0, 6, .inl (fun _ => 0)))] H locs := w
  refine n_putF X w hnm 0 rfl rfl inT4 tyX4 tyX4_ok nmX4 2 (by decide) rfl rfl rfl tw_104 rfl rfl (Nat.le_of_ble_eq_true rfl) dX4_init_25 (fun H locs w => ?_)
  replace w : Wn D ca (va_A [(h0, .inr (4, [.null, .null, .null, .int 0, .int 0]))] s.heap.size) s.heap s [(h0, .inr (4, [.ref q1, .ref q2, .ref q3, .int 0, .int 0])), (q1, .inl (ca 0, 6, .inl (fun _ => 0))), (q2, .inl (ca 0, 6, .inl (fun _ => 0))), (q3, .inl (ca 0, 6, .inl (fun _ => 0)))] H locs := w
  refine lv_aload_n X.1 X.2.1 dX4_init_28 rfl (lv_at hl 0 rfl) ?_
  refine lv_iconst (v := (-1 : Int32)) X.1 X.2.1 dX4_init_29 (by decide) ?_
  refine n_put X w 0 rfl rfl inT4 tyX4 tyX4_ok nmX4 4 (by decide) rfl rfl tw_106 rfl rfl (Nat.le_of_ble_eq_true rfl) dX4_init_30 (fun H locs w => ?_)
  replace w : Wn D ca (va_A [(h0, .inr (4, [.null, .null, .null, .int 0, .int 0]))] s.heap.size) s.heap s [(h0, .inr (4, [.ref q1, .ref q2, .ref q3, .int 0, .int (-1 : Int32)])), (q1, .inl (ca 0, 6, .inl (fun _ => 0))), (q2, .inl (ca 0, 6, .inl (fun _ => 0))), (q3, .inl (ca 0, 6, .inl (fun _ => 0)))] H locs := w
  refine lv_aload_n X.1 X.2.1 dX4_init_33 rfl (lv_at hl 0 rfl) ?_
  refine n_get X w 0 rfl rfl inT4 0 (by decide) rfl tw_100 rfl dX4_init_34 ?_
  refine lv_iconst (v := (-1 : Int32)) X.1 X.2.1 dX4_init_37 (by decide) ?_
  refine n_fill (wr := [(h0, .inr (4, [.ref q1, .ref q2, .ref q3, .int 0, .int (-1 : Int32)])), (q2, .inl (ca 0, 6, .inl (fun _ => 0))), (q3, .inl (ca 0, 6, .inl (fun _ => 0)))]) X w 1 [0, 2, 3] rfl rfl rfl (by decide) (fill_sp (by decide)) tw_97 ⟨tw_98, tw_67, tw_99⟩ ⟨by decide, by decide⟩ hl.1 (Nat.le_of_ble_eq_true rfl) dX4_init_38 ⟨(Nat.le_of_ble_eq_true rfl), (Nat.le_of_ble_eq_true rfl)⟩ (fun H locs w => ?_)
  replace w : Wn D ca (va_A [(h0, .inr (4, [.null, .null, .null, .int 0, .int 0]))] s.heap.size) s.heap s [(h0, .inr (4, [.ref q1, .ref q2, .ref q3, .int 0, .int (-1 : Int32)])), (q2, .inl (ca 0, 6, .inl (fun _ => 0))), (q3, .inl (ca 0, 6, .inl (fun _ => 0))), (q1, .inl (ca 0, 6, .inl (flm (fun _ => (fun _ => 0)) 6 0 (-1 : Int32) 0)))] H locs := w
  refine lv_aload_n X.1 X.2.1 dX4_init_41 rfl (lv_at hl 0 rfl) ?_
  refine n_get X w 0 rfl rfl inT4 1 (by decide) rfl tw_102 rfl dX4_init_42 ?_
  refine lv_iconst (v := (-1 : Int32)) X.1 X.2.1 dX4_init_45 (by decide) ?_
  refine n_fill (wr := [(h0, .inr (4, [.ref q1, .ref q2, .ref q3, .int 0, .int (-1 : Int32)])), (q3, .inl (ca 0, 6, .inl (fun _ => 0))), (q1, .inl (ca 0, 6, .inl (flm (fun _ => (fun _ => 0)) 6 0 (-1 : Int32) 0)))]) X w 1 [0, 2, 3] rfl rfl rfl (by decide) (fill_sp (by decide)) tw_97 ⟨tw_98, tw_67, tw_99⟩ ⟨by decide, by decide⟩ hl.1 (Nat.le_of_ble_eq_true rfl) dX4_init_46 ⟨(Nat.le_of_ble_eq_true rfl), (Nat.le_of_ble_eq_true rfl)⟩ (fun H locs w => ?_)
  replace w : Wn D ca (va_A [(h0, .inr (4, [.null, .null, .null, .int 0, .int 0]))] s.heap.size) s.heap s [(h0, .inr (4, [.ref q1, .ref q2, .ref q3, .int 0, .int (-1 : Int32)])), (q3, .inl (ca 0, 6, .inl (fun _ => 0))), (q1, .inl (ca 0, 6, .inl (flm (fun _ => (fun _ => 0)) 6 0 (-1 : Int32) 0))), (q2, .inl (ca 0, 6, .inl (flm (fun _ => (fun _ => 0)) 6 0 (-1 : Int32) 0)))] H locs := w
  exact n_vret (h0 := h0) X M w (fun k => [h0, q3, q1, q2].getD k 0) trivial [0, 1, 2, 3] rfl rfl rfl dX4_init_49
/-! WalkHouse$Walk() -/
theorem hdX6_init : yX6_init.cls ≠ "java/lang/invoke/MethodHandle" ∧ yX6_init.cls ≠ "java/lang/invoke/VarHandle" ∧ (parseMethodDescriptor yX6_init.desc).map (fun d => d.parameters.length) = some 0 := by decide +kernel
set_option maxRecDepth 100000 in
set_option maxHeartbeats 4000000 in
theorem kX6_init (l : Launch) (D : va_G) (ca : Nat → ClassId) (h0 sz : Nat) : CtN l yX6_init cX6_init 1 { frames := 1, cells := 1, slots := 3, locals := 20 } D ca h0 sz [(h0, .inr (6, [.int 0, .int 0, .int 0, .int 0, .int 0, .int 0, .int 0, .int 0, .int 0, .int 0, .null]))] (fun _ => True) (fun u => [(h0, .inr (6, [.int (0 : Int32), .int 0, .int 0, .int 0, .int 0, .int 0, .int 0, .int 0, .int 0, .int 0, .ref (u 1)])), ((u 1), .inl (ca 0, 3, .inl (fun _ => 0)))]) 1 3 := by
  refine CtN.of (by decide) (by decide) rfl ?_
  intro p e s m args below meth c ls X M hnm hsz w hl
  subst hsz
  replace X : CallFix p m c cX6_init 1 s args TT RX6 := X
  obtain ⟨H, hH⟩ : ∃ H, s.heap = H := ⟨_, rfl⟩
  replace w : Wn D ca (va_A [(h0, .inr (6, [.int 0, .int 0, .int 0, .int 0, .int 0, .int 0, .int 0, .int 0, .int 0, .int 0, .null]))] s.heap.size) s.heap s [(h0, .inr (6, [.int 0, .int 0, .int 0, .int 0, .int 0, .int 0, .int 0, .int 0, .int 0, .int 0, .null]))] H [] := hH ▸ w
  refine hW_start hH ?_
  refine lv_aload_n X.1 X.2.1 dX6_init_0 rfl (lv_at hl 0 rfl) ?_
  refine W.objInit X.1 X.2.1 X.2.2.2.1 (X.2.2.2.2 _ tw_184) (X.2.2.2.2 _ tw_89) (X.2.2.2.2 _ obC) rfl (by rw [X.2.2.1]; exact hl.1) rfl dX6_init_1 (by decide) (Nat.le_of_ble_eq_true rfl) ?_
  refine W.eq (g2 := F0 m 4 ls []) rfl ?_
  refine lv_aload_n X.1 X.2.1 dX6_init_4 rfl (lv_at hl 0 rfl) ?_
  refine lv_iconst (v := (0 : Int32)) X.1 X.2.1 dX6_init_5 (by decide) ?_
  refine n_put X w 0 rfl rfl inT6 tyX6 tyX6_ok nmX6 0 (by decide) rfl rfl tw_185 rfl rfl (Nat.le_of_ble_eq_true rfl) dX6_init_6 (fun H locs w => ?_)
  replace w : Wn D ca (va_A [(h0, .inr (6, [.int 0, .int 0, .int 0, .int 0, .int 0, .int 0, .int 0, .int 0, .int 0, .int 0, .null]))] s.heap.size) s.heap s [(h0, .inr (6, [.int (0 : Int32), .int 0, .int 0, .int 0, .int 0, .int 0, .int 0, .int 0, .int 0, .int 0, .null]))] H locs := w
  refine lv_aload_n X.1 X.2.1 dX6_init_9 rfl (lv_at hl 0 rfl) ?_
  refine lv_iconst (v := (3 : Int32)) X.1 X.2.1 dX6_init_10 (by decide) ?_
  refine n_newa X w 3 tw_119 (by decide) (by decide) (by decide) (Nat.le_of_ble_eq_true rfl) (Nat.le_of_ble_eq_true rfl) dX6_init_11 (fun q1 H w => ?_)
  replace w : Wn D ca (va_A [(h0, .inr (6, [.int 0, .int 0, .int 0, .int 0, .int 0, .int 0, .int 0, .int 0, .int 0, .int 0, .null]))] s.heap.size) s.heap s [(h0, .inr (6, [.int (0 : Int32), .int 0, .int 0, .int 0, .int 0, .int 0, .int 0, .int 0, .int 0, .int 0, .null])), (q1, .inl (ca 0, 3, .inl (fun _ => 0)))] H locs := w
  refine n_putF X w hnm 0 rfl rfl inT6 tyX6 tyX6_ok nmX6 10 (by decide) rfl rfl rfl tw_205 rfl rfl (Nat.le_of_ble_eq_true rfl) dX6_init_13 (fun H locs w => ?_)
  replace w : Wn D ca (va_A [(h0, .inr (6, [.int 0, .int 0, .int 0, .int 0, .int 0, .int 0, .int 0, .int 0, .int 0, .int 0, .null]))] s.heap.size) s.heap s [(h0, .inr (6, [.int (0 : Int32), .int 0, .int 0, .int 0, .int 0, .int 0, .int 0, .int 0, .int 0, .int 0, .ref q1])), (q1, .inl (ca 0, 3, .inl (fun _ => 0)))] H locs := w
  exact n_vret (h0 := h0) X M w (fun k => [h0, q1].getD k 0) trivial [0, 1] rfl rfl rfl dX6_init_16
/-! WalkHouse$Way() -/
theorem hdX7_init : yX7_init.cls ≠ "java/lang/invoke/MethodHandle" ∧ yX7_init.cls ≠ "java/lang/invoke/VarHandle" ∧ (parseMethodDescriptor yX7_init.desc).map (fun d => d.parameters.length) = some 0 := by decide +kernel
set_option maxRecDepth 100000 in
set_option maxHeartbeats 4000000 in
theorem kX7_init (l : Launch) (D : va_G) (ca : Nat → ClassId) (h0 sz : Nat) : CtN l yX7_init cX7_init 1 { frames := 1, cells := 2, slots := 6, locals := 20 } D ca h0 sz [(h0, .inr (7, [.null, .null, .int 0, .int 0, .int 0, .int 0]))] (fun _ => True) (fun u => [(h0, .inr (7, [.ref (u 1), .ref (u 2), .int 0, .int 0, .int 0, .int 0])), ((u 1), .inl (ca 0, 3, .inl (fun _ => 0))), ((u 2), .inl (ca 0, 3, .inl (fun _ => 0)))]) 2 6 := by
  refine CtN.of (by decide) (by decide) rfl ?_
  intro p e s m args below meth c ls X M hnm hsz w hl
  subst hsz
  replace X : CallFix p m c cX7_init 1 s args TT RX7 := X
  obtain ⟨H, hH⟩ : ∃ H, s.heap = H := ⟨_, rfl⟩
  replace w : Wn D ca (va_A [(h0, .inr (7, [.null, .null, .int 0, .int 0, .int 0, .int 0]))] s.heap.size) s.heap s [(h0, .inr (7, [.null, .null, .int 0, .int 0, .int 0, .int 0]))] H [] := hH ▸ w
  refine hW_start hH ?_
  refine lv_aload_n X.1 X.2.1 dX7_init_0 rfl (lv_at hl 0 rfl) ?_
  refine W.objInit X.1 X.2.1 X.2.2.2.1 (X.2.2.2.2 _ tw_235) (X.2.2.2.2 _ tw_89) (X.2.2.2.2 _ obC) rfl (by rw [X.2.2.1]; exact hl.1) rfl dX7_init_1 (by decide) (Nat.le_of_ble_eq_true rfl) ?_
  refine W.eq (g2 := F0 m 4 ls []) rfl ?_
  refine lv_aload_n X.1 X.2.1 dX7_init_4 rfl (lv_at hl 0 rfl) ?_
  refine lv_iconst (v := (3 : Int32)) X.1 X.2.1 dX7_init_5 (by decide) ?_
  refine n_newa X w 3 tw_119 (by decide) (by decide) (by decide) (Nat.le_of_ble_eq_true rfl) (Nat.le_of_ble_eq_true rfl) dX7_init_6 (fun q1 H w => ?_)
  replace w : Wn D ca (va_A [(h0, .inr (7, [.null, .null, .int 0, .int 0, .int 0, .int 0]))] s.heap.size) s.heap s [(h0, .inr (7, [.null, .null, .int 0, .int 0, .int 0, .int 0])), (q1, .inl (ca 0, 3, .inl (fun _ => 0)))] H [] := w
  refine n_putF X w hnm 0 rfl rfl inT7 tyX7 tyX7_ok nmX7 0 (by decide) rfl rfl rfl tw_236 rfl rfl (Nat.le_of_ble_eq_true rfl) dX7_init_8 (fun H locs w => ?_)
  replace w : Wn D ca (va_A [(h0, .inr (7, [.null, .null, .int 0, .int 0, .int 0, .int 0]))] s.heap.size) s.heap s [(h0, .inr (7, [.ref q1, .null, .int 0, .int 0, .int 0, .int 0])), (q1, .inl (ca 0, 3, .inl (fun _ => 0)))] H locs := w
  refine lv_aload_n X.1 X.2.1 dX7_init_11 rfl (lv_at hl 0 rfl) ?_
  refine lv_iconst (v := (3 : Int32)) X.1 X.2.1 dX7_init_12 (by decide) ?_
  refine n_newa X w 3 tw_119 (by decide) (by decide) (by decide) (Nat.le_of_ble_eq_true rfl) (Nat.le_of_ble_eq_true rfl) dX7_init_13 (fun q2 H w => ?_)
  replace w : Wn D ca (va_A [(h0, .inr (7, [.null, .null, .int 0, .int 0, .int 0, .int 0]))] s.heap.size) s.heap s [(h0, .inr (7, [.ref q1, .null, .int 0, .int 0, .int 0, .int 0])), (q1, .inl (ca 0, 3, .inl (fun _ => 0))), (q2, .inl (ca 0, 3, .inl (fun _ => 0)))] H locs := w
  refine n_putF X w hnm 0 rfl rfl inT7 tyX7 tyX7_ok nmX7 1 (by decide) rfl rfl rfl tw_238 rfl rfl (Nat.le_of_ble_eq_true rfl) dX7_init_15 (fun H locs w => ?_)
  replace w : Wn D ca (va_A [(h0, .inr (7, [.null, .null, .int 0, .int 0, .int 0, .int 0]))] s.heap.size) s.heap s [(h0, .inr (7, [.ref q1, .ref q2, .int 0, .int 0, .int 0, .int 0])), (q1, .inl (ca 0, 3, .inl (fun _ => 0))), (q2, .inl (ca 0, 3, .inl (fun _ => 0)))] H locs := w
  exact n_vret (h0 := h0) X M w (fun k => [h0, q1, q2].getD k 0) trivial [0, 1, 2] rfl rfl rfl dX7_init_18
/-! WalkHouse$Store() -/
theorem hdX5_init : yX5_init.cls ≠ "java/lang/invoke/MethodHandle" ∧ yX5_init.cls ≠ "java/lang/invoke/VarHandle" ∧ (parseMethodDescriptor yX5_init.desc).map (fun d => d.parameters.length) = some 0 := by decide +kernel
set_option maxRecDepth 100000 in
set_option maxHeartbeats 4000000 in
theorem kX5_init (l : Launch) (D : va_G) (ca : Nat → ClassId) (h0 sz : Nat) : CtN l yX5_init cX5_init 2 { frames := 2, cells := 7, slots := 54, locals := 40 } D ca h0 sz [(h0, .inr (5, [.null, .int 0]))] (fun _ => True) (fun u => [(h0, .inr (5, [.ref (u 1), .int 0])), ((u 1), .inl (ca 2, 6, .inr (.inr (.inr (.inr (va_up (va_up (va_up (va_up (va_up (va_up (fun _ => none) (0 : Int32).toNatClampNeg (some (u 2))) (1 : Int32).toNatClampNeg (some (u 3))) (2 : Int32).toNatClampNeg (some (u 4))) (3 : Int32).toNatClampNeg (some (u 5))) (4 : Int32).toNatClampNeg (some (u 6))) (5 : Int32).toNatClampNeg (some (u 7)))))))), ((u 2), .inr (3, [.int 0, .int 0, .int 0, .int 0, .int 0, .int 0, .int 0, .int 0])), ((u 3), .inr (3, [.int 0, .int 0, .int 0, .int 0, .int 0, .int 0, .int 0, .int 0])), ((u 4), .inr (3, [.int 0, .int 0, .int 0, .int 0, .int 0, .int 0, .int 0, .int 0])), ((u 5), .inr (3, [.int 0, .int 0, .int 0, .int 0, .int 0, .int 0, .int 0, .int 0])), ((u 6), .inr (3, [.int 0, .int 0, .int 0, .int 0, .int 0, .int 0, .int 0, .int 0])), ((u 7), .inr (3, [.int 0, .int 0, .int 0, .int 0, .int 0, .int 0, .int 0, .int 0]))]) 7 54 := by
  refine CtN.of (by decide) (by decide) rfl ?_
  intro p e s m args below meth c ls X M hnm hsz w hl
  subst hsz
  replace X : CallFix p m c cX5_init 2 s args TT RX5 := X
  obtain ⟨H, hH⟩ : ∃ H, s.heap = H := ⟨_, rfl⟩
  replace w : Wn D ca (va_A [(h0, .inr (5, [.null, .int 0]))] s.heap.size) s.heap s [(h0, .inr (5, [.null, .int 0]))] H [] := hH ▸ w
  refine hW_start hH ?_
  refine lv_aload_n X.1 X.2.1 dX5_init_0 rfl (lv_at hl 0 rfl) ?_
  refine W.objInit X.1 X.2.1 X.2.2.2.1 (X.2.2.2.2 _ tw_125) (X.2.2.2.2 _ tw_89) (X.2.2.2.2 _ obC) rfl (by rw [X.2.2.1]; exact hl.1) rfl dX5_init_1 (by decide) (Nat.le_of_ble_eq_true rfl) ?_
  refine W.eq (g2 := F0 m 4 ls []) rfl ?_
  refine lv_aload_n X.1 X.2.1 dX5_init_4 rfl (lv_at hl 0 rfl) ?_
  refine lv_bipush (v := (6 : Int32)) X.1 X.2.1 dX5_init_5 (by decide) ?_
  refine n_newq X w 6 2 rfl tw_126 w.2.2.2.2.2.1.1 (by decide) (by decide) (by decide) (Nat.le_of_ble_eq_true rfl) (Nat.le_of_ble_eq_true rfl) dX5_init_7 (fun q1 H w => ?_)
  replace w : Wn D ca (va_A [(h0, .inr (5, [.null, .int 0]))] s.heap.size) s.heap s [(h0, .inr (5, [.null, .int 0])), (q1, .inl (ca 2, 6, .inr (.inr (.inr (.inr (fun _ => none))))))] H [] := w
  refine n_putF X w hnm 0 rfl rfl inT5 tyX5 tyX5_ok nmX5 0 (by decide) rfl rfl rfl tw_170 rfl rfl (Nat.le_of_ble_eq_true rfl) dX5_init_10 (fun H locs w => ?_)
  replace w : Wn D ca (va_A [(h0, .inr (5, [.null, .int 0]))] s.heap.size) s.heap s [(h0, .inr (5, [.ref q1, .int 0])), (q1, .inl (ca 2, 6, .inr (.inr (.inr (.inr (fun _ => none))))))] H locs := w
  refine lv_iconst (v := (0 : Int32)) X.1 X.2.1 dX5_init_13 (by decide) ?_
  refine lv_istore_n (lv' := [(1, .int (0 : Int32)), (0, .ref h0)]) X.1 X.2.1 dX5_init_14 rfl hl (by decide) rfl (fun ls hl => ?_)
  refine lv_iload_n X.1 X.2.1 dX5_init_15 rfl (lv_at hl 0 rfl) ?_
  refine lv_bipush (v := (6 : Int32)) X.1 X.2.1 dX5_init_16 (by decide) ?_
  refine lv_icmp_ge (tgt := 40) X.1 X.2.1 dX5_init_18 (by decide) (fun c0 => absurd c0 (by decide)) (fun _ => ?_)
  refine lv_aload_n X.1 X.2.1 dX5_init_21 rfl (lv_at hl 1 rfl) ?_
  refine n_get X w 0 rfl rfl inT5 0 (by decide) rfl tw_170 rfl dX5_init_22 ?_
  refine lv_iload_n X.1 X.2.1 dX5_init_25 rfl (lv_at hl 0 rfl) ?_
  refine n_new (ci := 3) X w rfl inT3 tyX3 tyX3_ok tw_126 tw_128 tw_69 [.int 0, .int 0, .int 0, .int 0, .int 0, .int 0, .int 0, .int 0] dfX3 (Nat.le_of_ble_eq_true rfl) (Nat.le_of_ble_eq_true rfl) dX5_init_26 (fun q2 H w => ?_)
  replace w : Wn D ca (va_A [(h0, .inr (5, [.null, .int 0]))] s.heap.size) s.heap s [(h0, .inr (5, [.ref q1, .int 0])), (q1, .inl (ca 2, 6, .inr (.inr (.inr (.inr (fun _ => none)))))), (q2, .inr (3, [.int 0, .int 0, .int 0, .int 0, .int 0, .int 0, .int 0, .int 0]))] H locs := w
  refine lv_dup X.1 X.2.1 dX5_init_29 rfl ?_
  refine n_callN (wr := [(h0, .inr (5, [.ref q1, .int 0])), (q1, .inl (ca 2, 6, .inr (.inr (.inr (.inr (fun _ => none))))))]) X w 2 [0, 1] rfl rfl rfl (by decide) (kX3_init l D ca q2 H.size) tw_131 tw_69 (w.2.2.2.2.2.2.1) tw_130 rfl hdX3_init rfl rfl ⟨by decide, by decide⟩ hl.1 (Nat.le_of_ble_eq_true rfl) dX5_init_30 ⟨(Nat.le_of_ble_eq_true rfl), (Nat.le_of_ble_eq_true rfl)⟩ (fun u3 H locs _ w => ?_)
  replace w : Wn D ca (va_A [(h0, .inr (5, [.null, .int 0]))] s.heap.size) s.heap s [(h0, .inr (5, [.ref q1, .int 0])), (q1, .inl (ca 2, 6, .inr (.inr (.inr (.inr (fun _ => none)))))), (q2, .inr (3, [.int 0, .int 0, .int 0, .int 0, .int 0, .int 0, .int 0, .int 0]))] H locs := w
  refine n_aast X w 1 2 2 3 rfl rfl rfl rfl (show ¬ ((0 : Int32) < 0 ∨ 6 ≤ ((0 : Int32) : Int32).toNatClampNeg) by decide) dX5_init_33 (fun H locs w => ?_)
  replace w : Wn D ca (va_A [(h0, .inr (5, [.null, .int 0]))] s.heap.size) s.heap s [(h0, .inr (5, [.ref q1, .int 0])), (q1, .inl (ca 2, 6, .inr (.inr (.inr (.inr (va_up (fun _ => none) (0 : Int32).toNatClampNeg (some q2))))))), (q2, .inr (3, [.int 0, .int 0, .int 0, .int 0, .int 0, .int 0, .int 0, .int 0]))] H locs := w
  refine lv_iinc (v := (1 : Int32)) (lv' := [(1, .int (1 : Int32)), (0, .ref h0)]) X.1 X.2.1 dX5_init_34 hl (k := 0) rfl (by decide) (by decide) rfl (fun ls hl => ?_)
  refine lv_goto (tgt := 15) X.1 X.2.1 dX5_init_37 (by decide) ?_
  refine lv_iload_n X.1 X.2.1 dX5_init_15 rfl (lv_at hl 0 rfl) ?_
  refine lv_bipush (v := (6 : Int32)) X.1 X.2.1 dX5_init_16 (by decide) ?_
  refine lv_icmp_ge (tgt := 40) X.1 X.2.1 dX5_init_18 (by decide) (fun c0 => absurd c0 (by decide)) (fun _ => ?_)
  refine lv_aload_n X.1 X.2.1 dX5_init_21 rfl (lv_at hl 1 rfl) ?_
  refine n_get X w 0 rfl rfl inT5 0 (by decide) rfl tw_170 rfl dX5_init_22 ?_
  refine lv_iload_n X.1 X.2.1 dX5_init_25 rfl (lv_at hl 0 rfl) ?_
  refine n_new (ci := 3) X w rfl inT3 tyX3 tyX3_ok tw_126 tw_128 tw_69 [.int 0, .int 0, .int 0, .int 0, .int 0, .int 0, .int 0, .int 0] dfX3 (Nat.le_of_ble_eq_true rfl) (Nat.le_of_ble_eq_true rfl) dX5_init_26 (fun q4 H w => ?_)
  replace w : Wn D ca (va_A [(h0, .inr (5, [.null, .int 0]))] s.heap.size) s.heap s [(h0, .inr (5, [.ref q1, .int 0])), (q1, .inl (ca 2, 6, .inr (.inr (.inr (.inr (va_up (fun _ => none) (0 : Int32).toNatClampNeg (some q2))))))), (q2, .inr (3, [.int 0, .int 0, .int 0, .int 0, .int 0, .int 0, .int 0, .int 0])), (q4, .inr (3, [.int 0, .int 0, .int 0, .int 0, .int 0, .int 0, .int 0, .int 0]))] H locs := w
  refine lv_dup X.1 X.2.1 dX5_init_29 rfl ?_
  refine n_callN (wr := [(h0, .inr (5, [.ref q1, .int 0])), (q1, .inl (ca 2, 6, .inr (.inr (.inr (.inr (va_up (fun _ => none) (0 : Int32).toNatClampNeg (some q2))))))), (q2, .inr (3, [.int 0, .int 0, .int 0, .int 0, .int 0, .int 0, .int 0, .int 0]))]) X w 3 [0, 1, 2] rfl rfl rfl (by decide) (kX3_init l D ca q4 H.size) tw_131 tw_69 (w.2.2.2.2.2.2.1) tw_130 rfl hdX3_init rfl rfl ⟨by decide, by decide⟩ hl.1 (Nat.le_of_ble_eq_true rfl) dX5_init_30 ⟨(Nat.le_of_ble_eq_true rfl), (Nat.le_of_ble_eq_true rfl)⟩ (fun u5 H locs _ w => ?_)
  replace w : Wn D ca (va_A [(h0, .inr (5, [.null, .int 0]))] s.heap.size) s.heap s [(h0, .inr (5, [.ref q1, .int 0])), (q1, .inl (ca 2, 6, .inr (.inr (.inr (.inr (va_up (fun _ => none) (0 : Int32).toNatClampNeg (some q2))))))), (q2, .inr (3, [.int 0, .int 0, .int 0, .int 0, .int 0, .int 0, .int 0, .int 0])), (q4, .inr (3, [.int 0, .int 0, .int 0, .int 0, .int 0, .int 0, .int 0, .int 0]))] H locs := w
  refine n_aast X w 1 2 3 3 rfl rfl rfl rfl (show ¬ ((1 : Int32) < 0 ∨ 6 ≤ ((1 : Int32) : Int32).toNatClampNeg) by decide) dX5_init_33 (fun H locs w => ?_)
  replace w : Wn D ca (va_A [(h0, .inr (5, [.null, .int 0]))] s.heap.size) s.heap s [(h0, .inr (5, [.ref q1, .int 0])), (q1, .inl (ca 2, 6, .inr (.inr (.inr (.inr (va_up (va_up (fun _ => none) (0 : Int32).toNatClampNeg (some q2)) (1 : Int32).toNatClampNeg (some q4))))))), (q2, .inr (3, [.int 0, .int 0, .int 0, .int 0, .int 0, .int 0, .int 0, .int 0])), (q4, .inr (3, [.int 0, .int 0, .int 0, .int 0, .int 0, .int 0, .int 0, .int 0]))] H locs := w
  refine lv_iinc (v := (2 : Int32)) (lv' := [(1, .int (2 : Int32)), (0, .ref h0)]) X.1 X.2.1 dX5_init_34 hl (k := 0) rfl (by decide) (by decide) rfl (fun ls hl => ?_)
  refine lv_goto (tgt := 15) X.1 X.2.1 dX5_init_37 (by decide) ?_
  refine lv_iload_n X.1 X.2.1 dX5_init_15 rfl (lv_at hl 0 rfl) ?_
  refine lv_bipush (v := (6 : Int32)) X.1 X.2.1 dX5_init_16 (by decide) ?_
  refine lv_icmp_ge (tgt := 40) X.1 X.2.1 dX5_init_18 (by decide) (fun c0 => absurd c0 (by decide)) (fun _ => ?_)
  refine lv_aload_n X.1 X.2.1 dX5_init_21 rfl (lv_at hl 1 rfl) ?_
  refine n_get X w 0 rfl rfl inT5 0 (by decide) rfl tw_170 rfl dX5_init_22 ?_
  refine lv_iload_n X.1 X.2.1 dX5_init_25 rfl (lv_at hl 0 rfl) ?_
  refine n_new (ci := 3) X w rfl inT3 tyX3 tyX3_ok tw_126 tw_128 tw_69 [.int 0, .int 0, .int 0, .int 0, .int 0, .int 0, .int 0, .int 0] dfX3 (Nat.le_of_ble_eq_true rfl) (Nat.le_of_ble_eq_true rfl) dX5_init_26 (fun q6 H w => ?_)
  replace w : Wn D ca (va_A [(h0, .inr (5, [.null, .int 0]))] s.heap.size) s.heap s [(h0, .inr (5, [.ref q1, .int 0])), (q1, .inl (ca 2, 6, .inr (.inr (.inr (.inr (va_up (va_up (fun _ => none) (0 : Int32).toNatClampNeg (some q2)) (1 : Int32).toNatClampNeg (some q4))))))), (q2, .inr (3, [.int 0, .int 0, .int 0, .int 0, .int 0, .int 0, .int 0, .int 0])), (q4, .inr (3, [.int 0, .int 0, .int 0, .int 0, .int 0, .int 0, .int 0, .int 0])), (q6, .inr (3, [.int 0, .int 0, .int 0, .int 0, .int 0, .int 0, .int 0, .int 0]))] H locs := w
  refine lv_dup X.1 X.2.1 dX5_init_29 rfl ?_
  refine n_callN (wr := [(h0, .inr (5, [.ref q1, .int 0])), (q1, .inl (ca 2, 6, .inr (.inr (.inr (.inr (va_up (va_up (fun _ => none) (0 : Int32).toNatClampNeg (some q2)) (1 : Int32).toNatClampNeg (some q4))))))), (q2, .inr (3, [.int 0, .int 0, .int 0, .int 0, .int 0, .int 0, .int 0, .int 0])), (q4, .inr (3, [.int 0, .int 0, .int 0, .int 0, .int 0, .int 0, .int 0, .int 0]))]) X w 4 [0, 1, 2, 3] rfl rfl rfl (by decide) (kX3_init l D ca q6 H.size) tw_131 tw_69 (w.2.2.2.2.2.2.1) tw_130 rfl hdX3_init rfl rfl ⟨by decide, by decide⟩ hl.1 (Nat.le_of_ble_eq_true rfl) dX5_init_30 ⟨(Nat.le_of_ble_eq_true rfl), (Nat.le_of_ble_eq_true rfl)⟩ (fun u7 H locs _ w => ?_)
  replace w : Wn D ca (va_A [(h0, .inr (5, [.null, .int 0]))] s.heap.size) s.heap s [(h0, .inr (5, [.ref q1, .int 0])), (q1, .inl (ca 2, 6, .inr (.inr (.inr (.inr (va_up (va_up (fun _ => none) (0 : Int32).toNatClampNeg (some q2)) (1 : Int32).toNatClampNeg (some q4))))))), (q2, .inr (3, [.int 0, .int 0, .int 0, .int 0, .int 0, .int 0, .int 0, .int 0])), (q4, .inr (3, [.int 0, .int 0, .int 0, .int 0, .int 0, .int 0, .int 0, .int 0])), (q6, .inr (3, [.int 0, .int 0, .int 0, .int 0, .int 0, .int 0, .int 0, .int 0]))] H locs := w
  refine n_aast X w 1 2 4 3 rfl rfl rfl rfl (show ¬ ((2 : Int32) < 0 ∨ 6 ≤ ((2 : Int32) : Int32).toNatClampNeg) by decide) dX5_init_33 (fun H locs w => ?_)
  replace w : Wn D ca (va_A [(h0, .inr (5, [.null, .int 0]))] s.heap.size) s.heap s [(h0, .inr (5, [.ref q1, .int 0])), (q1, .inl (ca 2, 6, .inr (.inr (.inr (.inr (va_up (va_up (va_up (fun _ => none) (0 : Int32).toNatClampNeg (some q2)) (1 : Int32).toNatClampNeg (some q4)) (2 : Int32).toNatClampNeg (some q6))))))), (q2, .inr (3, [.int 0, .int 0, .int 0, .int 0, .int 0, .int 0, .int 0, .int 0])), (q4, .inr (3, [.int 0, .int 0, .int 0, .int 0, .int 0, .int 0, .int 0, .int 0])), (q6, .inr (3, [.int 0, .int 0, .int 0, .int 0, .int 0, .int 0, .int 0, .int 0]))] H locs := w
  refine lv_iinc (v := (3 : Int32)) (lv' := [(1, .int (3 : Int32)), (0, .ref h0)]) X.1 X.2.1 dX5_init_34 hl (k := 0) rfl (by decide) (by decide) rfl (fun ls hl => ?_)
  refine lv_goto (tgt := 15) X.1 X.2.1 dX5_init_37 (by decide) ?_
  refine lv_iload_n X.1 X.2.1 dX5_init_15 rfl (lv_at hl 0 rfl) ?_
  refine lv_bipush (v := (6 : Int32)) X.1 X.2.1 dX5_init_16 (by decide) ?_
  refine lv_icmp_ge (tgt := 40) X.1 X.2.1 dX5_init_18 (by decide) (fun c0 => absurd c0 (by decide)) (fun _ => ?_)
  refine lv_aload_n X.1 X.2.1 dX5_init_21 rfl (lv_at hl 1 rfl) ?_
  refine n_get X w 0 rfl rfl inT5 0 (by decide) rfl tw_170 rfl dX5_init_22 ?_
  refine lv_iload_n X.1 X.2.1 dX5_init_25 rfl (lv_at hl 0 rfl) ?_
  refine n_new (ci := 3) X w rfl inT3 tyX3 tyX3_ok tw_126 tw_128 tw_69 [.int 0, .int 0, .int 0, .int 0, .int 0, .int 0, .int 0, .int 0] dfX3 (Nat.le_of_ble_eq_true rfl) (Nat.le_of_ble_eq_true rfl) dX5_init_26 (fun q8 H w => ?_)
  replace w : Wn D ca (va_A [(h0, .inr (5, [.null, .int 0]))] s.heap.size) s.heap s [(h0, .inr (5, [.ref q1, .int 0])), (q1, .inl (ca 2, 6, .inr (.inr (.inr (.inr (va_up (va_up (va_up (fun _ => none) (0 : Int32).toNatClampNeg (some q2)) (1 : Int32).toNatClampNeg (some q4)) (2 : Int32).toNatClampNeg (some q6))))))), (q2, .inr (3, [.int 0, .int 0, .int 0, .int 0, .int 0, .int 0, .int 0, .int 0])), (q4, .inr (3, [.int 0, .int 0, .int 0, .int 0, .int 0, .int 0, .int 0, .int 0])), (q6, .inr (3, [.int 0, .int 0, .int 0, .int 0, .int 0, .int 0, .int 0, .int 0])), (q8, .inr (3, [.int 0, .int 0, .int 0, .int 0, .int 0, .int 0, .int 0, .int 0]))] H locs := w
  refine lv_dup X.1 X.2.1 dX5_init_29 rfl ?_
  refine n_callN (wr := [(h0, .inr (5, [.ref q1, .int 0])), (q1, .inl (ca 2, 6, .inr (.inr (.inr (.inr (va_up (va_up (va_up (fun _ => none) (0 : Int32).toNatClampNeg (some q2)) (1 : Int32).toNatClampNeg (some q4)) (2 : Int32).toNatClampNeg (some q6))))))), (q2, .inr (3, [.int 0, .int 0, .int 0, .int 0, .int 0, .int 0, .int 0, .int 0])), (q4, .inr (3, [.int 0, .int 0, .int 0, .int 0, .int 0, .int 0, .int 0, .int 0])), (q6, .inr (3, [.int 0, .int 0, .int 0, .int 0, .int 0, .int 0, .int 0, .int 0]))]) X w 5 [0, 1, 2, 3, 4] rfl rfl rfl (by decide) (kX3_init l D ca q8 H.size) tw_131 tw_69 (w.2.2.2.2.2.2.1) tw_130 rfl hdX3_init rfl rfl ⟨by decide, by decide⟩ hl.1 (Nat.le_of_ble_eq_true rfl) dX5_init_30 ⟨(Nat.le_of_ble_eq_true rfl), (Nat.le_of_ble_eq_true rfl)⟩ (fun u9 H locs _ w => ?_)
  replace w : Wn D ca (va_A [(h0, .inr (5, [.null, .int 0]))] s.heap.size) s.heap s [(h0, .inr (5, [.ref q1, .int 0])), (q1, .inl (ca 2, 6, .inr (.inr (.inr (.inr (va_up (va_up (va_up (fun _ => none) (0 : Int32).toNatClampNeg (some q2)) (1 : Int32).toNatClampNeg (some q4)) (2 : Int32).toNatClampNeg (some q6))))))), (q2, .inr (3, [.int 0, .int 0, .int 0, .int 0, .int 0, .int 0, .int 0, .int 0])), (q4, .inr (3, [.int 0, .int 0, .int 0, .int 0, .int 0, .int 0, .int 0, .int 0])), (q6, .inr (3, [.int 0, .int 0, .int 0, .int 0, .int 0, .int 0, .int 0, .int 0])), (q8, .inr (3, [.int 0, .int 0, .int 0, .int 0, .int 0, .int 0, .int 0, .int 0]))] H locs := w
  refine n_aast X w 1 2 5 3 rfl rfl rfl rfl (show ¬ ((3 : Int32) < 0 ∨ 6 ≤ ((3 : Int32) : Int32).toNatClampNeg) by decide) dX5_init_33 (fun H locs w => ?_)
  replace w : Wn D ca (va_A [(h0, .inr (5, [.null, .int 0]))] s.heap.size) s.heap s [(h0, .inr (5, [.ref q1, .int 0])), (q1, .inl (ca 2, 6, .inr (.inr (.inr (.inr (va_up (va_up (va_up (va_up (fun _ => none) (0 : Int32).toNatClampNeg (some q2)) (1 : Int32).toNatClampNeg (some q4)) (2 : Int32).toNatClampNeg (some q6)) (3 : Int32).toNatClampNeg (some q8))))))), (q2, .inr (3, [.int 0, .int 0, .int 0, .int 0, .int 0, .int 0, .int 0, .int 0])), (q4, .inr (3, [.int 0, .int 0, .int 0, .int 0, .int 0, .int 0, .int 0, .int 0])), (q6, .inr (3, [.int 0, .int 0, .int 0, .int 0, .int 0, .int 0, .int 0, .int 0])), (q8, .inr (3, [.int 0, .int 0, .int 0, .int 0, .int 0, .int 0, .int 0, .int 0]))] H locs := w
  refine lv_iinc (v := (4 : Int32)) (lv' := [(1, .int (4 : Int32)), (0, .ref h0)]) X.1 X.2.1 dX5_init_34 hl (k := 0) rfl (by decide) (by decide) rfl (fun ls hl => ?_)
  refine lv_goto (tgt := 15) X.1 X.2.1 dX5_init_37 (by decide) ?_
  refine lv_iload_n X.1 X.2.1 dX5_init_15 rfl (lv_at hl 0 rfl) ?_
  refine lv_bipush (v := (6 : Int32)) X.1 X.2.1 dX5_init_16 (by decide) ?_
  refine lv_icmp_ge (tgt := 40) X.1 X.2.1 dX5_init_18 (by decide) (fun c0 => absurd c0 (by decide)) (fun _ => ?_)
  refine lv_aload_n X.1 X.2.1 dX5_init_21 rfl (lv_at hl 1 rfl) ?_
  refine n_get X w 0 rfl rfl inT5 0 (by decide) rfl tw_170 rfl dX5_init_22 ?_
  refine lv_iload_n X.1 X.2.1 dX5_init_25 rfl (lv_at hl 0 rfl) ?_
  refine n_new (ci := 3) X w rfl inT3 tyX3 tyX3_ok tw_126 tw_128 tw_69 [.int 0, .int 0, .int 0, .int 0, .int 0, .int 0, .int 0, .int 0] dfX3 (Nat.le_of_ble_eq_true rfl) (Nat.le_of_ble_eq_true rfl) dX5_init_26 (fun q10 H w => ?_)
  replace w : Wn D ca (va_A [(h0, .inr (5, [.null, .int 0]))] s.heap.size) s.heap s [(h0, .inr (5, [.ref q1, .int 0])), (q1, .inl (ca 2, 6, .inr (.inr (.inr (.inr (va_up (va_up (va_up (va_up (fun _ => none) (0 : Int32).toNatClampNeg (some q2)) (1 : Int32).toNatClampNeg (some q4)) (2 : Int32).toNatClampNeg (some q6)) (3 : Int32).toNatClampNeg (some q8))))))), (q2, .inr (3, [.int 0, .int 0, .int 0, .int 0, .int 0, .int 0, .int 0, .int 0])), (q4, .inr (3, [.int 0, .int 0, .int 0, .int 0, .int 0, .int 0, .int 0, .int 0])), (q6, .inr (3, [.int 0, .int 0, .int 0, .int 0, .int 0, .int 0, .int 0, .int 0])), (q8, .inr (3, [.int 0, .int 0, .int 0, .int 0, .int 0, .int 0, .int 0, .int 0])), (q10, .inr (3, [.int 0, .int 0, .int 0, .int 0, .int 0, .int 0, .int 0, .int 0]))] H locs := w
  refine lv_dup X.1 X.2.1 dX5_init_29 rfl ?_
  refine n_callN (wr := [(h0, .inr (5, [.ref q1, .int 0])), (q1, .inl (ca 2, 6, .inr (.inr (.inr (.inr (va_up (va_up (va_up (va_up (fun _ => none) (0 : Int32).toNatClampNeg (some q2)) (1 : Int32).toNatClampNeg (some q4)) (2 : Int32).toNatClampNeg (some q6)) (3 : Int32).toNatClampNeg (some q8))))))), (q2, .inr (3, [.int 0, .int 0, .int 0, .int 0, .int 0, .int 0, .int 0, .int 0])), (q4, .inr (3, [.int 0, .int 0, .int 0, .int 0, .int 0, .int 0, .int 0, .int 0])), (q6, .inr (3, [.int 0, .int 0, .int 0, .int 0, .int 0, .int 0, .int 0, .int 0])), (q8, .inr (3, [.int 0, .int 0, .int 0, .int 0, .int 0, .int 0, .int 0, .int 0]))]) X w 6 [0, 1, 2, 3, 4, 5] rfl rfl rfl (by decide) (kX3_init l D ca q10 H.size) tw_131 tw_69 (w.2.2.2.2.2.2.1) tw_130 rfl hdX3_init rfl rfl ⟨by decide, by decide⟩ hl.1 (Nat.le_of_ble_eq_true rfl) dX5_init_30 ⟨(Nat.le_of_ble_eq_true rfl), (Nat.le_of_ble_eq_true rfl)⟩ (fun u11 H locs _ w => ?_)
  replace w : Wn D ca (va_A [(h0, .inr (5, [.null, .int 0]))] s.heap.size) s.heap s [(h0, .inr (5, [.ref q1, .int 0])), (q1, .inl (ca 2, 6, .inr (.inr (.inr (.inr (va_up (va_up (va_up (va_up (fun _ => none) (0 : Int32).toNatClampNeg (some q2)) (1 : Int32).toNatClampNeg (some q4)) (2 : Int32).toNatClampNeg (some q6)) (3 : Int32).toNatClampNeg (some q8))))))), (q2, .inr (3, [.int 0, .int 0, .int 0, .int 0, .int 0, .int 0, .int 0, .int 0])), (q4, .inr (3, [.int 0, .int 0, .int 0, .int 0, .int 0, .int 0, .int 0, .int 0])), (q6, .inr (3, [.int 0, .int 0, .int 0, .int 0, .int 0, .int 0, .int 0, .int 0])), (q8, .inr (3, [.int 0, .int 0, .int 0, .int 0, .int 0, .int 0, .int 0, .int 0])), (q10, .inr (3, [.int 0, .int 0, .int 0, .int 0, .int 0, .int 0, .int 0, .int 0]))] H locs := w
  refine n_aast X w 1 2 6 3 rfl rfl rfl rfl (show ¬ ((4 : Int32) < 0 ∨ 6 ≤ ((4 : Int32) : Int32).toNatClampNeg) by decide) dX5_init_33 (fun H locs w => ?_)
  replace w : Wn D ca (va_A [(h0, .inr (5, [.null, .int 0]))] s.heap.size) s.heap s [(h0, .inr (5, [.ref q1, .int 0])), (q1, .inl (ca 2, 6, .inr (.inr (.inr (.inr (va_up (va_up (va_up (va_up (va_up (fun _ => none) (0 : Int32).toNatClampNeg (some q2)) (1 : Int32).toNatClampNeg (some q4)) (2 : Int32).toNatClampNeg (some q6)) (3 : Int32).toNatClampNeg (some q8)) (4 : Int32).toNatClampNeg (some q10))))))), (q2, .inr (3, [.int 0, .int 0, .int 0, .int 0, .int 0, .int 0, .int 0, .int 0])), (q4, .inr (3, [.int 0, .int 0, .int 0, .int 0, .int 0, .int 0, .int 0, .int 0])), (q6, .inr (3, [.int 0, .int 0, .int 0, .int 0, .int 0, .int 0, .int 0, .int 0])), (q8, .inr (3, [.int 0, .int 0, .int 0, .int 0, .int 0, .int 0, .int 0, .int 0])), (q10, .inr (3, [.int 0, .int 0, .int 0, .int 0, .int 0, .int 0, .int 0, .int 0]))] H locs := w
  refine lv_iinc (v := (5 : Int32)) (lv' := [(1, .int (5 : Int32)), (0, .ref h0)]) X.1 X.2.1 dX5_init_34 hl (k := 0) rfl (by decide) (by decide) rfl (fun ls hl => ?_)
  refine lv_goto (tgt := 15) X.1 X.2.1 dX5_init_37 (by decide) ?_
  refine lv_iload_n X.1 X.2.1 dX5_init_15 rfl (lv_at hl 0 rfl) ?_
  refine lv_bipush (v := (6 : Int32)) X.1 X.2.1 dX5_init_16 (by decide) ?_
  refine lv_icmp_ge (tgt := 40) X.1 X.2.1 dX5_init_18 (by decide) (fun c0 => absurd c0 (by decide)) (fun _ => ?_)
  refine lv_aload_n X.1 X.2.1 dX5_init_21 rfl (lv_at hl 1 rfl) ?_
  refine n_get X w 0 rfl rfl inT5 0 (by decide) rfl tw_170 rfl dX5_init_22 ?_
  refine lv_iload_n X.1 X.2.1 dX5_init_25 rfl (lv_at hl 0 rfl) ?_
  refine n_new (ci := 3) X w rfl inT3 tyX3 tyX3_ok tw_126 tw_128 tw_69 [.int 0, .int 0, .int 0, .int 0, .int 0, .int 0, .int 0, .int 0] dfX3 (Nat.le_of_ble_eq_true rfl) (Nat.le_of_ble_eq_true rfl) dX5_init_26 (fun q12 H w => ?_)
  replace w : Wn D ca (va_A [(h0, .inr (5, [.null, .int 0]))] s.heap.size) s.heap s [(h0, .inr (5, [.ref q1, .int 0])), (q1, .inl (ca 2, 6, .inr (.inr (.inr (.inr (va_up (va_up (va_up (va_up (va_up (fun _ => none) (0 : Int32).toNatClampNeg (some q2)) (1 : Int32).toNatClampNeg (some q4)) (2 : Int32).toNatClampNeg (some q6)) (3 : Int32).toNatClampNeg (some q8)) (4 : Int32).toNatClampNeg (some q10))))))), (q2, .inr (3, [.int 0, .int 0, .int 0, .int 0, .int 0, .int 0, .int 0, .int 0])), (q4, .inr (3, [.int 0, .int 0, .int 0, .int 0, .int 0, .int 0, .int 0, .int 0])), (q6, .inr (3, [.int 0, .int 0, .int 0, .int 0, .int 0, .int 0, .int 0, .int 0])), (q8, .inr (3, [.int 0, .int 0, .int 0, .int 0, .int 0, .int 0, .int 0, .int 0])), (q10, .inr (3, [.int 0, .int 0, .int 0, .int 0, .int 0, .int 0, .int 0, .int 0])), (q12, .inr (3, [.int 0, .int 0, .int 0, .int 0, .int 0, .int 0, .int 0, .int 0]))] H locs := w
  refine lv_dup X.1 X.2.1 dX5_init_29 rfl ?_
  refine n_callN (wr := [(h0, .inr (5, [.ref q1, .int 0])), (q1, .inl (ca 2, 6, .inr (.inr (.inr (.inr (va_up (va_up (va_up (va_up (va_up (fun _ => none) (0 : Int32).toNatClampNeg (some q2)) (1 : Int32).toNatClampNeg (some q4)) (2 : Int32).toNatClampNeg (some q6)) (3 : Int32).toNatClampNeg (some q8)) (4 : Int32).toNatClampNeg (some q10))))))), (q2, .inr (3, [.int 0, .int 0, .int 0, .int 0, .int 0, .int 0, .int 0, .int 0])), (q4, .inr (3, [.int 0, .int 0, .int 0, .int 0, .int 0, .int 0, .int 0, .int 0])), (q6, .inr (3, [.int 0, .int 0, .int 0, .int 0, .int 0, .int 0, .int 0, .int 0])), (q8, .inr (3, [.int 0, .int 0, .int 0, .int 0, .int 0, .int 0, .int 0, .int 0])), (q10, .inr (3, [.int 0, .int 0, .int 0, .int 0, .int 0, .int 0, .int 0, .int 0]))]) X w 7 [0, 1, 2, 3, 4, 5, 6] rfl rfl rfl (by decide) (kX3_init l D ca q12 H.size) tw_131 tw_69 (w.2.2.2.2.2.2.1) tw_130 rfl hdX3_init rfl rfl ⟨by decide, by decide⟩ hl.1 (Nat.le_of_ble_eq_true rfl) dX5_init_30 ⟨(Nat.le_of_ble_eq_true rfl), (Nat.le_of_ble_eq_true rfl)⟩ (fun u13 H locs _ w => ?_)
  replace w : Wn D ca (va_A [(h0, .inr (5, [.null, .int 0]))] s.heap.size) s.heap s [(h0, .inr (5, [.ref q1, .int 0])), (q1, .inl (ca 2, 6, .inr (.inr (.inr (.inr (va_up (va_up (va_up (va_up (va_up (fun _ => none) (0 : Int32).toNatClampNeg (some q2)) (1 : Int32).toNatClampNeg (some q4)) (2 : Int32).toNatClampNeg (some q6)) (3 : Int32).toNatClampNeg (some q8)) (4 : Int32).toNatClampNeg (some q10))))))), (q2, .inr (3, [.int 0, .int 0, .int 0, .int 0, .int 0, .int 0, .int 0, .int 0])), (q4, .inr (3, [.int 0, .int 0, .int 0, .int 0, .int 0, .int 0, .int 0, .int 0])), (q6, .inr (3, [.int 0, .int 0, .int 0, .int 0, .int 0, .int 0, .int 0, .int 0])), (q8, .inr (3, [.int 0, .int 0, .int 0, .int 0, .int 0, .int 0, .int 0, .int 0])), (q10, .inr (3, [.int 0, .int 0, .int 0, .int 0, .int 0, .int 0, .int 0, .int 0])), (q12, .inr (3, [.int 0, .int 0, .int 0, .int 0, .int 0, .int 0, .int 0, .int 0]))] H locs := w
  refine n_aast X w 1 2 7 3 rfl rfl rfl rfl (show ¬ ((5 : Int32) < 0 ∨ 6 ≤ ((5 : Int32) : Int32).toNatClampNeg) by decide) dX5_init_33 (fun H locs w => ?_)
  replace w : Wn D ca (va_A [(h0, .inr (5, [.null, .int 0]))] s.heap.size) s.heap s [(h0, .inr (5, [.ref q1, .int 0])), (q1, .inl (ca 2, 6, .inr (.inr (.inr (.inr (va_up (va_up (va_up (va_up (va_up (va_up (fun _ => none) (0 : Int32).toNatClampNeg (some q2)) (1 : Int32).toNatClampNeg (some q4)) (2 : Int32).toNatClampNeg (some q6)) (3 : Int32).toNatClampNeg (some q8)) (4 : Int32).toNatClampNeg (some q10)) (5 : Int32).toNatClampNeg (some q12))))))), (q2, .inr (3, [.int 0, .int 0, .int 0, .int 0, .int 0, .int 0, .int 0, .int 0])), (q4, .inr (3, [.int 0, .int 0, .int 0, .int 0, .int 0, .int 0, .int 0, .int 0])), (q6, .inr (3, [.int 0, .int 0, .int 0, .int 0, .int 0, .int 0, .int 0, .int 0])), (q8, .inr (3, [.int 0, .int 0, .int 0, .int 0, .int 0, .int 0, .int 0, .int 0])), (q10, .inr (3, [.int 0, .int 0, .int 0, .int 0, .int 0, .int 0, .int 0, .int 0])), (q12, .inr (3, [.int 0, .int 0, .int 0, .int 0, .int 0, .int 0, .int 0, .int 0]))] H locs := w
  refine lv_iinc (v := (6 : Int32)) (lv' := [(1, .int (6 : Int32)), (0, .ref h0)]) X.1 X.2.1 dX5_init_34 hl (k := 0) rfl (by decide) (by decide) rfl (fun ls hl => ?_)
  refine lv_goto (tgt := 15) X.1 X.2.1 dX5_init_37 (by decide) ?_
  refine lv_iload_n X.1 X.2.1 dX5_init_15 rfl (lv_at hl 0 rfl) ?_
  refine lv_bipush (v := (6 : Int32)) X.1 X.2.1 dX5_init_16 (by decide) ?_
  refine lv_icmp_ge (tgt := 40) X.1 X.2.1 dX5_init_18 (by decide) (fun _ => ?_) (fun c0 => absurd (by decide) c0)
  exact n_vret (h0 := h0) X M w (fun k => [h0, q1, q2, q4, q6, q8, q10, q12].getD k 0) trivial [0, 1, 2, 3, 4, 5, 6, 7] rfl rfl rfl dX5_init_40
