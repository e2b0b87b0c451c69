/-! WalkHouseModel.asks(II)I (W) -/
theorem hdX9_asks : yX9_asks.cls = RX9 ∧ yX9_asks.cls ≠ "java/lang/invoke/MethodHandle" ∧ yX9_asks.cls ≠ "java/lang/invoke/VarHandle" ∧ (parseMethodDescriptor yX9_asks.desc).map (fun d => d.parameters.length) = some 2 := by decide +kernel
def fX9_asks_b208  (mem : Mm) (s1 : Int32) (s2 : Int32) (s3 : Int32) : Option (Mm × Int32) :=
  gd s1 345 (wk mem 1 s1.toNatClampNeg (s2 + s3) (fun m2 => if (m2 0 16) ≤ 0 then some (m2, (m2 0 15)) else some (m2, ((-2 : Int32) - (m2 0 16)))))
set_option maxRecDepth 100000 in
set_option maxHeartbeats 4000000 in
theorem wX9_asks_b208 {p : Program} {l : Launch} {e : Env} {s : State} {m : MethodId} {args : Array Value} {below : List Frame} {meth : Method} {c : Code} {D : va_G} {ca : Nat → ClassId} {ad : Nat → Nat} {H : Heap} {locs : List Loc} {ls : Array Slot} {mem : Mm} {s1 : Int32} {s2 : Int32} {s3 : Int32}  {mem' : Mm} {r : Int32} (X : CallFix p m c cX9_asks 5 s args TT RX9) (M : Mt meth (some .int))   (w : Wd D ca ad layM (AA ad layM.length) s.heap s mem H locs) (hl : lv_has ls 5 [(0, .ref (ad 0))]) (h : fX9_asks_b208  mem s1 s2 s3 = some (mem', r)) : W p l e (rmx 4 106) s m args below meth c H locs 0 0 (EndI D ca ad layM mem' r below args s) (F0 m 208 ls [.int s3, .int s2, .int s1, .ref (ad 1)]) := by
  unfold fX9_asks_b208 at h
  refine lv_iadd X.1 X.2.1 dX9_asks_208 ?_
  obtain ⟨hi1, h⟩ := gd_some h
  refine r_iast X w lyM_1 hi1 dX9_asks_209 (fun H locs w => ?_)
  obtain ⟨m2, em2, h⟩ := wk_some h
  rw [em2] at w
  refine lv_aload_n X.1 X.2.1 dX9_asks_210 rfl (lv_at hl 0 rfl) ?_
  refine r_get X w lyM_0 rfl inT9 16 rfl (by decide) rfl tw_918 dX9_asks_211 ?_
  refine lv_if_le (tgt := 227) X.1 X.2.1 dX9_asks_214 (by decide) (fun c3 => ?_) (fun c3 => ?_)
  · rw [if_pos c3] at h
    refine lv_aload_n X.1 X.2.1 dX9_asks_227 rfl (lv_at hl 0 rfl) ?_
    refine r_get X w lyM_0 rfl inT9 15 rfl (by decide) rfl tw_917 dX9_asks_228 ?_
    obtain ⟨rfl, rfl⟩ := Prod.mk.inj (Option.some.inj h)
    exact r_iret X M w dX9_asks_231
  · rw [if_neg c3] at h
    refine lv_bipush (v := (-2 : Int32)) X.1 X.2.1 dX9_asks_217 (by decide) ?_
    refine lv_aload_n X.1 X.2.1 dX9_asks_219 rfl (lv_at hl 0 rfl) ?_
    refine r_get X w lyM_0 rfl inT9 16 rfl (by decide) rfl tw_918 dX9_asks_220 ?_
    refine lv_isub X.1 X.2.1 dX9_asks_223 ?_
    refine lv_goto (tgt := 231) X.1 X.2.1 dX9_asks_224 (by decide) ?_
    obtain ⟨rfl, rfl⟩ := Prod.mk.inj (Option.some.inj h)
    exact r_iret X M w dX9_asks_231
def fX9_asks_b154_s  (k154 : Mm → Int32 → Int32 → Int32 → Int32 → Option (Mm × Int32)) (mem : Mm) (x1 : Int32) (x2 : Int32) (x3 : Int32) (x4 : Int32) : Option (Mm × Int32) :=
  if x4 = 0 then gd (323 : Int32) 345 (gd (323 : Int32) 345 (wk mem 1 (323 : Int32).toNatClampNeg ((mem 1 (323 : Int32).toNatClampNeg) + (mem 0 14)) (fun m4 => gd (325 : Int32) 345 (if (m4 0 16) ≤ 0 then fX9_asks_b208 m4 (325 : Int32) (m4 1 (325 : Int32).toNatClampNeg) (0 : Int32) else fX9_asks_b208 m4 (325 : Int32) (m4 1 (325 : Int32).toNatClampNeg) (1 : Int32))))) else bw (fX9_reads mem x3 x1 x2 (0 : Int32)) (fun m8 r7 => k154 m8 x1 x2 x3 r7)
def fX9_asks_b154  : Nat → Mm → Int32 → Int32 → Int32 → Int32 → Option (Mm × Int32)
  | 0 => fun _ _ _ _ _ => none
  | n + 1 => fX9_asks_b154_s  (fX9_asks_b154  n)
set_option maxRecDepth 100000 in
set_option maxHeartbeats 4000000 in
theorem wX9_asks_b154_s {p : Program} {l : Launch} {e : Env} {s : State} {m : MethodId} {args : Array Value} {below : List Frame} {meth : Method} {c : Code} {D : va_G} {ca : Nat → ClassId} {ad : Nat → Nat} {H : Heap} {locs : List Loc} {ls : Array Slot} {mem : Mm} {x1 : Int32} {x2 : Int32} {x3 : Int32} {x4 : Int32}  {k154 : Mm → Int32 → Int32 → Int32 → Int32 → Option (Mm × Int32)} {mem' : Mm} {r : Int32} (X : CallFix p m c cX9_asks 5 s args TT RX9) (M : Mt meth (some .int))  (hk154 : ∀ (mem : Mm) (x1 : Int32) (x2 : Int32) (x3 : Int32) (x4 : Int32) (H : Heap) (locs : List Loc) (ls : Array Slot) , Wd D ca ad layM (AA ad layM.length) s.heap s mem H locs → lv_has ls 5 [(0, .ref (ad 0)), (1, .int x1), (2, .int x2), (3, .int x3), (4, .int x4)] → k154 mem x1 x2 x3 x4 = some (mem', r) → W p l e (rmx 4 106) s m args below meth c H locs 0 0 (EndI D ca ad layM mem' r below args s) (F0 m 154 ls []))  (w : Wd D ca ad layM (AA ad layM.length) s.heap s mem H locs) (hl : lv_has ls 5 [(0, .ref (ad 0)), (1, .int x1), (2, .int x2), (3, .int x3), (4, .int x4)]) (h : fX9_asks_b154_s  k154 mem x1 x2 x3 x4 = some (mem', r)) : W p l e (rmx 4 106) s m args below meth c H locs 0 0 (EndI D ca ad layM mem' r below args s) (F0 m 154 ls []) := by
  unfold fX9_asks_b154_s at h
  refine lv_iload X.1 X.2.1 dX9_asks_154 (lv_at hl 4 rfl) ?_
  refine lv_if_eq (tgt := 172) X.1 X.2.1 dX9_asks_156 (by decide) (fun c1 => ?_) (fun c1 => ?_)
  · rw [if_pos c1] at h
    refine lv_aload_n X.1 X.2.1 dX9_asks_172 rfl (lv_at hl 0 rfl) ?_
    refine r_getr (b2 := 1) X w lyM_0 rfl inT9 1 rfl rfl (by decide) rfl tw_903 dX9_asks_173 ?_
    refine lv_sipush (v := (323 : Int32)) X.1 X.2.1 dX9_asks_176 (by decide) ?_
    refine lv_dup2_11 X.1 X.2.1 dX9_asks_179 rfl rfl ?_
    obtain ⟨hi2, h⟩ := gd_some h
    refine r_iald X w lyM_1 hi2 dX9_asks_180 ?_
    refine lv_aload_n X.1 X.2.1 dX9_asks_181 rfl (lv_at hl 0 rfl) ?_
    refine r_get X w lyM_0 rfl inT9 14 rfl (by decide) rfl tw_916 dX9_asks_182 ?_
    refine lv_iadd X.1 X.2.1 dX9_asks_185 ?_
    obtain ⟨hi3, h⟩ := gd_some h
    refine r_iast X w lyM_1 hi3 dX9_asks_186 (fun H locs w => ?_)
    obtain ⟨m4, em4, h⟩ := wk_some h
    rw [em4] at w
    refine lv_aload_n X.1 X.2.1 dX9_asks_187 rfl (lv_at hl 0 rfl) ?_
    refine r_getr (b2 := 1) X w lyM_0 rfl inT9 1 rfl rfl (by decide) rfl tw_903 dX9_asks_188 ?_
    refine lv_sipush (v := (325 : Int32)) X.1 X.2.1 dX9_asks_191 (by decide) ?_
    refine lv_dup2_11 X.1 X.2.1 dX9_asks_194 rfl rfl ?_
    obtain ⟨hi5, h⟩ := gd_some h
    refine r_iald X w lyM_1 hi5 dX9_asks_195 ?_
    refine lv_aload_n X.1 X.2.1 dX9_asks_196 rfl (lv_at hl 0 rfl) ?_
    refine r_get X w lyM_0 rfl inT9 16 rfl (by decide) rfl tw_918 dX9_asks_197 ?_
    refine lv_if_le (tgt := 207) X.1 X.2.1 dX9_asks_200 (by decide) (fun c6 => ?_) (fun c6 => ?_)
    · rw [if_pos c6] at h
      refine lv_iconst (v := (0 : Int32)) X.1 X.2.1 dX9_asks_207 (by decide) ?_
      exact wX9_asks_b208 X M w (lv_sub hl [0] rfl) h
    · rw [if_neg c6] at h
      refine lv_iconst (v := (1 : Int32)) X.1 X.2.1 dX9_asks_203 (by decide) ?_
      refine lv_goto (tgt := 208) X.1 X.2.1 dX9_asks_204 (by decide) ?_
      exact wX9_asks_b208 X M w (lv_sub hl [0] rfl) h
  · rw [if_neg c1] at h
    refine lv_aload_n X.1 X.2.1 dX9_asks_159 rfl (lv_at hl 0 rfl) ?_
    refine lv_iload_n X.1 X.2.1 dX9_asks_160 rfl (lv_at hl 3 rfl) ?_
    refine lv_iload_n X.1 X.2.1 dX9_asks_161 rfl (lv_at hl 1 rfl) ?_
    refine lv_iload_n X.1 X.2.1 dX9_asks_162 rfl (lv_at hl 2 rfl) ?_
    refine lv_iconst (v := (0 : Int32)) X.1 X.2.1 dX9_asks_163 (by decide) ?_
    obtain ⟨m8, r7, hr7, h⟩ := bw_some h
    refine r_cVi (As := [.int x3, .int x1, .int x2, .int (0 : Int32)]) (rest := []) X w lyM_0 rfl (kX9_reads  l D ca ad mem x3 x1 x2 (0 : Int32)  hr7) (gTV tw_1077 tw_1079 tw_42 tw_75 tw_1080) hdX9_reads (by decide) rfl hl.1 rfl (Nat.le_of_ble_eq_true rfl) dX9_asks_164 ⟨Nat.zero_le _, Nat.zero_le _⟩ (fun H locs w => ?_)
    refine lv_istore (lv' := [(4, .int r7), (0, .ref (ad 0)), (1, .int x1), (2, .int x2), (3, .int x3)]) X.1 X.2.1 dX9_asks_167 hl (by decide) rfl (fun ls hl => ?_)
    refine lv_goto (tgt := 154) X.1 X.2.1 dX9_asks_169 (by decide) ?_
    exact hk154 _ _ _ _ _ H locs ls w (lv_sub hl [1, 2, 3, 4, 0] rfl) h
set_option maxRecDepth 100000 in
set_option maxHeartbeats 4000000 in
theorem wX9_asks_b154 {p : Program} {l : Launch} {e : Env} {s : State} {m : MethodId} {args : Array Value} {below : List Frame} {meth : Method} {c : Code} {D : va_G} {ca : Nat → ClassId} {ad : Nat → Nat}  {mem' : Mm} {r : Int32} (X : CallFix p m c cX9_asks 5 s args TT RX9) (M : Mt meth (some .int))  : ∀ (n : Nat) (mem : Mm) (x1 : Int32) (x2 : Int32) (x3 : Int32) (x4 : Int32) (H : Heap) (locs : List Loc) (ls : Array Slot)  (_ : Wd D ca ad layM (AA ad layM.length) s.heap s mem H locs) (_ : lv_has ls 5 [(0, .ref (ad 0)), (1, .int x1), (2, .int x2), (3, .int x3), (4, .int x4)]) (_ : fX9_asks_b154  n mem x1 x2 x3 x4 = some (mem', r)), W p l e (rmx 4 106) s m args below meth c H locs 0 0 (EndI D ca ad layM mem' r below args s) (F0 m 154 ls []) := by
  intro n
  induction n with
  | zero => intro mem x1 x2 x3 x4 H locs ls  w hl h; exact (nofun : (none : Option (Mm × Int32)) = _ → _) h
  | succ n ih => intro mem x1 x2 x3 x4 H locs ls  w hl h; exact wX9_asks_b154_s X M  ih  w hl h
def fX9_asks_b100 (k23 : Mm → Int32 → Int32 → Int32 → Option (Mm × Int32)) (mem : Mm) (x1 : Int32) (x2 : Int32) (x3 : Int32) : Option (Mm × Int32) :=
  gd x3 345 (wk mem 1 x3.toNatClampNeg (-1 : Int32) (fun m2 => bd (fX9_latestThatFits m2 x1) (fun r3 => k23 m2 x1 x2 r3)))
set_option maxRecDepth 100000 in
set_option maxHeartbeats 4000000 in
theorem wX9_asks_b100 {p : Program} {l : Launch} {e : Env} {s : State} {m : MethodId} {args : Array Value} {below : List Frame} {meth : Method} {c : Code} {D : va_G} {ca : Nat → ClassId} {ad : Nat → Nat} {H : Heap} {locs : List Loc} {ls : Array Slot} {mem : Mm} {x1 : Int32} {x2 : Int32} {x3 : Int32} {k23 : Mm → Int32 → Int32 → Int32 → Option (Mm × Int32)} {mem' : Mm} {r : Int32} (X : CallFix p m c cX9_asks 5 s args TT RX9) (M : Mt meth (some .int)) (hk23 : ∀ (mem : Mm) (x1 : Int32) (x2 : Int32) (x3 : Int32) (H : Heap) (locs : List Loc) (ls : Array Slot) , Wd D ca ad layM (AA ad layM.length) s.heap s mem H locs → lv_has ls 5 [(0, .ref (ad 0)), (1, .int x1), (2, .int x2), (3, .int x3)] → k23 mem x1 x2 x3 = some (mem', r) → W p l e (rmx 4 106) s m args below meth c H locs 0 0 (EndI D ca ad layM mem' r below args s) (F0 m 23 ls []))  (w : Wd D ca ad layM (AA ad layM.length) s.heap s mem H locs) (hl : lv_has ls 5 [(0, .ref (ad 0)), (1, .int x1), (2, .int x2), (3, .int x3)]) (h : fX9_asks_b100 k23 mem x1 x2 x3 = some (mem', r)) : W p l e (rmx 4 106) s m args below meth c H locs 0 0 (EndI D ca ad layM mem' r below args s) (F0 m 100 ls []) := by
  unfold fX9_asks_b100 at h
  refine lv_aload_n X.1 X.2.1 dX9_asks_100 rfl (lv_at hl 0 rfl) ?_
  refine r_getr (b2 := 1) X w lyM_0 rfl inT9 1 rfl rfl (by decide) rfl tw_903 dX9_asks_101 ?_
  refine lv_iload_n X.1 X.2.1 dX9_asks_104 rfl (lv_at hl 3 rfl) ?_
  refine lv_iconst (v := (-1 : Int32)) X.1 X.2.1 dX9_asks_105 (by decide) ?_
  obtain ⟨hi1, h⟩ := gd_some h
  refine r_iast X w lyM_1 hi1 dX9_asks_106 (fun H locs w => ?_)
  obtain ⟨m2, em2, h⟩ := wk_some h
  rw [em2] at w
  refine lv_aload_n X.1 X.2.1 dX9_asks_107 rfl (lv_at hl 0 rfl) ?_
  refine lv_iload_n X.1 X.2.1 dX9_asks_108 rfl (lv_at hl 1 rfl) ?_
  obtain ⟨r3, hr3, h⟩ := bd_some h
  refine r_cVi (As := [.int x1]) (rest := []) X w lyM_0 rfl (kX9_latestThatFits  l D ca ad m2 x1  hr3) (gTV tw_1050 tw_1052 tw_36 tw_75 tw_1053) hdX9_latestThatFits (by decide) rfl hl.1 rfl (Nat.le_of_ble_eq_true rfl) dX9_asks_109 ⟨Nat.zero_le _, Nat.zero_le _⟩ (fun H locs w => ?_)
  refine lv_istore_n (lv' := [(3, .int r3), (0, .ref (ad 0)), (1, .int x1), (2, .int x2)]) X.1 X.2.1 dX9_asks_112 rfl hl (by decide) rfl (fun ls hl => ?_)
  refine lv_goto (tgt := 23) X.1 X.2.1 dX9_asks_113 (by decide) ?_
  exact hk23 _ _ _ _ H locs ls w (lv_sub hl [1, 2, 3, 0] rfl) h
def fX9_asks_b60  (mem : Mm) (x1 : Int32) (x3 : Int32) : Option (Mm × Int32) :=
  bw (fX9_isUsed mem x3) (fun m2 r1 => gd (322 : Int32) 345 (gd (322 : Int32) 345 (wk m2 1 (322 : Int32).toNatClampNeg ((m2 1 (322 : Int32).toNatClampNeg) + (1 : Int32)) (fun m5 => gd (x3 + (3 : Int32)) 345 (gd (x3 + (1 : Int32)) 345 (nz (fX9_wide (m5 1 (x3 + (1 : Int32)).toNatClampNeg)) (some (m5, ((m5 1 (x3 + (3 : Int32)).toNatClampNeg) + (x1 - x1 / (fX9_wide (m5 1 (x3 + (1 : Int32)).toNatClampNeg)) * (fX9_wide (m5 1 (x3 + (1 : Int32)).toNatClampNeg))))))))))))
set_option maxRecDepth 100000 in
set_option maxHeartbeats 4000000 in
theorem wX9_asks_b60 {p : Program} {l : Launch} {e : Env} {s : State} {m : MethodId} {args : Array Value} {below : List Frame} {meth : Method} {c : Code} {D : va_G} {ca : Nat → ClassId} {ad : Nat → Nat} {H : Heap} {locs : List Loc} {ls : Array Slot} {mem : Mm} {x1 : Int32} {x3 : Int32}  {mem' : Mm} {r : Int32} (X : CallFix p m c cX9_asks 5 s args TT RX9) (M : Mt meth (some .int))   (w : Wd D ca ad layM (AA ad layM.length) s.heap s mem H locs) (hl : lv_has ls 5 [(0, .ref (ad 0)), (1, .int x1), (3, .int x3)]) (h : fX9_asks_b60  mem x1 x3 = some (mem', r)) : W p l e (rmx 4 106) s m args below meth c H locs 0 0 (EndI D ca ad layM mem' r below args s) (F0 m 60 ls []) := by
  unfold fX9_asks_b60 at h
  refine lv_aload_n X.1 X.2.1 dX9_asks_60 rfl (lv_at hl 0 rfl) ?_
  refine lv_iload_n X.1 X.2.1 dX9_asks_61 rfl (lv_at hl 2 rfl) ?_
  obtain ⟨m2, r1, hr1, h⟩ := bw_some h
  refine r_cVv (As := [.int x3]) (rest := []) X w lyM_0 rfl (kX9_isUsed  l D ca ad mem x3  hr1) (gTV tw_1069 tw_1071 tw_40 tw_75 tw_1072) hdX9_isUsed (by decide) rfl hl.1 rfl (Nat.le_of_ble_eq_true rfl) dX9_asks_62 ⟨Nat.zero_le _, Nat.zero_le _⟩ (fun H locs w => ?_)
  refine lv_aload_n X.1 X.2.1 dX9_asks_65 rfl (lv_at hl 0 rfl) ?_
  refine r_getr (b2 := 1) X w lyM_0 rfl inT9 1 rfl rfl (by decide) rfl tw_903 dX9_asks_66 ?_
  refine lv_sipush (v := (322 : Int32)) X.1 X.2.1 dX9_asks_69 (by decide) ?_
  refine lv_dup2_11 X.1 X.2.1 dX9_asks_72 rfl rfl ?_
  obtain ⟨hi3, h⟩ := gd_some h
  refine r_iald X w lyM_1 hi3 dX9_asks_73 ?_
  refine lv_iconst (v := (1 : Int32)) X.1 X.2.1 dX9_asks_74 (by decide) ?_
  refine lv_iadd X.1 X.2.1 dX9_asks_75 ?_
  obtain ⟨hi4, h⟩ := gd_some h
  refine r_iast X w lyM_1 hi4 dX9_asks_76 (fun H locs w => ?_)
  obtain ⟨m5, em5, h⟩ := wk_some h
  rw [em5] at w
  refine lv_aload_n X.1 X.2.1 dX9_asks_77 rfl (lv_at hl 0 rfl) ?_
  refine r_getr (b2 := 1) X w lyM_0 rfl inT9 1 rfl rfl (by decide) rfl tw_903 dX9_asks_78 ?_
  refine lv_iload_n X.1 X.2.1 dX9_asks_81 rfl (lv_at hl 2 rfl) ?_
  refine lv_iconst (v := (3 : Int32)) X.1 X.2.1 dX9_asks_82 (by decide) ?_
  refine lv_iadd X.1 X.2.1 dX9_asks_83 ?_
  obtain ⟨hi6, h⟩ := gd_some h
  refine r_iald X w lyM_1 hi6 dX9_asks_84 ?_
  refine lv_iload_n X.1 X.2.1 dX9_asks_85 rfl (lv_at hl 1 rfl) ?_
  refine lv_aload_n X.1 X.2.1 dX9_asks_86 rfl (lv_at hl 0 rfl) ?_
  refine r_getr (b2 := 1) X w lyM_0 rfl inT9 1 rfl rfl (by decide) rfl tw_903 dX9_asks_87 ?_
  refine lv_iload_n X.1 X.2.1 dX9_asks_90 rfl (lv_at hl 2 rfl) ?_
  refine lv_iconst (v := (1 : Int32)) X.1 X.2.1 dX9_asks_91 (by decide) ?_
  refine lv_iadd X.1 X.2.1 dX9_asks_92 ?_
  obtain ⟨hi7, h⟩ := gd_some h
  refine r_iald X w lyM_1 hi7 dX9_asks_93 ?_
  refine r_cSi (As := [.int (m5 1 (x3 + (1 : Int32)).toNatClampNeg)]) (rest := [.int x1, .int (m5 1 (x3 + (3 : Int32)).toNatClampNeg)]) X w (kX9_wide  l D ca ad m5 (m5 1 (x3 + (1 : Int32)).toNatClampNeg)  rfl) (gTS tw_1066 tw_1067 tw_75 tw_1068) hdX9_wide (by decide) rfl hl.1 rfl (Nat.le_of_ble_eq_true rfl) dX9_asks_94 ⟨Nat.zero_le _, Nat.zero_le _⟩ (fun H locs w => ?_)
  obtain ⟨hz8, h⟩ := nz_some h
  refine lv_irem X.1 X.2.1 dX9_asks_97 hz8 ?_
  refine lv_iadd X.1 X.2.1 dX9_asks_98 ?_
  obtain ⟨rfl, rfl⟩ := Prod.mk.inj (Option.some.inj h)
  exact r_iret X M w dX9_asks_99
def fX9_asks_b23_s  (k23 : Mm → Int32 → Int32 → Int32 → Option (Mm × Int32)) (mem : Mm) (x1 : Int32) (x2 : Int32) (x3 : Int32) : Option (Mm × Int32) :=
  if x3 < 0 then gd (344 : Int32) 345 (gd ((332 : Int32) + (mem 1 (344 : Int32).toNatClampNeg)) 345 (lk (mem 1 ((332 : Int32) + (mem 1 (344 : Int32).toNatClampNeg)).toNatClampNeg) (fun x_4 => bw (fX9_begins mem x_4 x1) (fun m6 r5 => if (m6 0 16) = 0 then fX9_asks_b154 2000 m6 x1 x2 x_4 (1 : Int32) else fX9_asks_b154 2000 m6 x1 x2 x_4 (0 : Int32))))) else gd (x3 + (4 : Int32)) 345 (if (x2 &&& ((mem 1 (x3 + (4 : Int32)).toNatClampNeg) ^^^ (-1 : Int32))) = 0 then if (x2 &&& (1 : Int32)) = 0 then fX9_asks_b60 mem x1 x3 else gd (x3 + (5 : Int32)) 345 (if (mem 1 (x3 + (5 : Int32)).toNatClampNeg) = (1 : Int32) then fX9_asks_b60 mem x1 x3 else fX9_asks_b100 k23 mem x1 x2 x3) else fX9_asks_b100 k23 mem x1 x2 x3)
def fX9_asks_b23  : Nat → Mm → Int32 → Int32 → Int32 → Option (Mm × Int32)
  | 0 => fun _ _ _ _ => none
  | n + 1 => fX9_asks_b23_s  (fX9_asks_b23  n)
set_option maxRecDepth 100000 in
set_option maxHeartbeats 4000000 in
theorem wX9_asks_b23_s {p : Program} {l : Launch} {e : Env} {s : State} {m : MethodId} {args : Array Value} {below : List Frame} {meth : Method} {c : Code} {D : va_G} {ca : Nat → ClassId} {ad : Nat → Nat} {H : Heap} {locs : List Loc} {ls : Array Slot} {mem : Mm} {x1 : Int32} {x2 : Int32} {x3 : Int32}  {k23 : Mm → Int32 → Int32 → Int32 → Option (Mm × Int32)} {mem' : Mm} {r : Int32} (X : CallFix p m c cX9_asks 5 s args TT RX9) (M : Mt meth (some .int))  (hk23 : ∀ (mem : Mm) (x1 : Int32) (x2 : Int32) (x3 : Int32) (H : Heap) (locs : List Loc) (ls : Array Slot) , Wd D ca ad layM (AA ad layM.length) s.heap s mem H locs → lv_has ls 5 [(0, .ref (ad 0)), (1, .int x1), (2, .int x2), (3, .int x3)] → k23 mem x1 x2 x3 = some (mem', r) → W p l e (rmx 4 106) s m args below meth c H locs 0 0 (EndI D ca ad layM mem' r below args s) (F0 m 23 ls []))  (w : Wd D ca ad layM (AA ad layM.length) s.heap s mem H locs) (hl : lv_has ls 5 [(0, .ref (ad 0)), (1, .int x1), (2, .int x2), (3, .int x3)]) (h : fX9_asks_b23_s  k23 mem x1 x2 x3 = some (mem', r)) : W p l e (rmx 4 106) s m args below meth c H locs 0 0 (EndI D ca ad layM mem' r below args s) (F0 m 23 ls []) := by
  unfold fX9_asks_b23_s at h
  refine lv_iload_n X.1 X.2.1 dX9_asks_23 rfl (lv_at hl 3 rfl) ?_
  refine lv_if_lt (tgt := 116) X.1 X.2.1 dX9_asks_24 (by decide) (fun c1 => ?_) (fun c1 => ?_)
  · rw [if_pos c1] at h
    refine lv_aload_n X.1 X.2.1 dX9_asks_116 rfl (lv_at hl 0 rfl) ?_
    refine r_getr (b2 := 1) X w lyM_0 rfl inT9 1 rfl rfl (by decide) rfl tw_903 dX9_asks_117 ?_
    refine lv_sipush (v := (332 : Int32)) X.1 X.2.1 dX9_asks_120 (by decide) ?_
    refine lv_aload_n X.1 X.2.1 dX9_asks_123 rfl (lv_at hl 0 rfl) ?_
    refine r_getr (b2 := 1) X w lyM_0 rfl inT9 1 rfl rfl (by decide) rfl tw_903 dX9_asks_124 ?_
    refine lv_sipush (v := (344 : Int32)) X.1 X.2.1 dX9_asks_127 (by decide) ?_
    obtain ⟨hi2, h⟩ := gd_some h
    refine r_iald X w lyM_1 hi2 dX9_asks_130 ?_
    refine lv_iadd X.1 X.2.1 dX9_asks_131 ?_
    obtain ⟨hi3, h⟩ := gd_some h
    refine r_iald X w lyM_1 hi3 dX9_asks_132 ?_
    obtain ⟨x_4, ex_4, h⟩ := lk_some h
    refine lv_name ex_4 ?_
    refine lv_istore_n (lv' := [(3, .int x_4), (0, .ref (ad 0)), (1, .int x1), (2, .int x2)]) X.1 X.2.1 dX9_asks_133 rfl hl (by decide) rfl (fun ls hl => ?_)
    refine lv_aload_n X.1 X.2.1 dX9_asks_134 rfl (lv_at hl 1 rfl) ?_
    refine lv_iload_n X.1 X.2.1 dX9_asks_135 rfl (lv_at hl 0 rfl) ?_
    refine lv_iload_n X.1 X.2.1 dX9_asks_136 rfl (lv_at hl 2 rfl) ?_
    obtain ⟨m6, r5, hr5, h⟩ := bw_some h
    refine r_cVv (As := [.int x_4, .int x1]) (rest := []) X w lyM_0 rfl (kX9_begins  l D ca ad mem x_4 x1  hr5) (gTV tw_1073 tw_1075 tw_41 tw_75 tw_1076) hdX9_begins (by decide) rfl hl.1 rfl (Nat.le_of_ble_eq_true rfl) dX9_asks_137 ⟨Nat.zero_le _, Nat.zero_le _⟩ (fun H locs w => ?_)
    refine lv_aload_n X.1 X.2.1 dX9_asks_140 rfl (lv_at hl 1 rfl) ?_
    refine r_get X w lyM_0 rfl inT9 16 rfl (by decide) rfl tw_918 dX9_asks_141 ?_
    refine lv_if_ne (tgt := 151) X.1 X.2.1 dX9_asks_144 (by decide) (fun c7 => ?_) (fun c7 => ?_)
    · rw [if_neg c7] at h
      refine lv_iconst (v := (0 : Int32)) X.1 X.2.1 dX9_asks_151 (by decide) ?_
      refine lv_istore (lv' := [(4, .int (0 : Int32)), (3, .int x_4), (0, .ref (ad 0)), (1, .int x1), (2, .int x2)]) X.1 X.2.1 dX9_asks_152 hl (by decide) rfl (fun ls hl => ?_)
      exact wX9_asks_b154 X M _ _ _ _ _ _ H locs ls w (lv_sub hl [2, 3, 4, 1, 0] rfl) h
    · rw [if_pos c7] at h
      refine lv_iconst (v := (1 : Int32)) X.1 X.2.1 dX9_asks_147 (by decide) ?_
      refine lv_goto (tgt := 152) X.1 X.2.1 dX9_asks_148 (by decide) ?_
      refine lv_istore (lv' := [(4, .int (1 : Int32)), (3, .int x_4), (0, .ref (ad 0)), (1, .int x1), (2, .int x2)]) X.1 X.2.1 dX9_asks_152 hl (by decide) rfl (fun ls hl => ?_)
      exact wX9_asks_b154 X M _ _ _ _ _ _ H locs ls w (lv_sub hl [2, 3, 4, 1, 0] rfl) h
  · rw [if_neg c1] at h
    refine lv_iload_n X.1 X.2.1 dX9_asks_27 rfl (lv_at hl 2 rfl) ?_
    refine lv_aload_n X.1 X.2.1 dX9_asks_28 rfl (lv_at hl 0 rfl) ?_
    refine r_getr (b2 := 1) X w lyM_0 rfl inT9 1 rfl rfl (by decide) rfl tw_903 dX9_asks_29 ?_
    refine lv_iload_n X.1 X.2.1 dX9_asks_32 rfl (lv_at hl 3 rfl) ?_
    refine lv_iconst (v := (4 : Int32)) X.1 X.2.1 dX9_asks_33 (by decide) ?_
    refine lv_iadd X.1 X.2.1 dX9_asks_34 ?_
    obtain ⟨hi8, h⟩ := gd_some h
    refine r_iald X w lyM_1 hi8 dX9_asks_35 ?_
    refine lv_iconst (v := (-1 : Int32)) X.1 X.2.1 dX9_asks_36 (by decide) ?_
    refine lv_ixor X.1 X.2.1 dX9_asks_37 ?_
    refine lv_iand X.1 X.2.1 dX9_asks_38 ?_
    refine lv_if_ne (tgt := 100) X.1 X.2.1 dX9_asks_39 (by decide) (fun c9 => ?_) (fun c9 => ?_)
    · rw [if_neg c9] at h
      exact wX9_asks_b100 X M hk23 w (lv_sub hl [0, 1, 2, 3] rfl) h
    · rw [if_pos c9] at h
      refine lv_iload_n X.1 X.2.1 dX9_asks_42 rfl (lv_at hl 2 rfl) ?_
      refine lv_iconst (v := (1 : Int32)) X.1 X.2.1 dX9_asks_43 (by decide) ?_
      refine lv_iand X.1 X.2.1 dX9_asks_44 ?_
      refine lv_if_eq (tgt := 60) X.1 X.2.1 dX9_asks_45 (by decide) (fun c10 => ?_) (fun c10 => ?_)
      · rw [if_pos c10] at h
        exact wX9_asks_b60 X M w (lv_sub hl [0, 1, 3] rfl) h
      · rw [if_neg c10] at h
        refine lv_aload_n X.1 X.2.1 dX9_asks_48 rfl (lv_at hl 0 rfl) ?_
        refine r_getr (b2 := 1) X w lyM_0 rfl inT9 1 rfl rfl (by decide) rfl tw_903 dX9_asks_49 ?_
        refine lv_iload_n X.1 X.2.1 dX9_asks_52 rfl (lv_at hl 3 rfl) ?_
        refine lv_iconst (v := (5 : Int32)) X.1 X.2.1 dX9_asks_53 (by decide) ?_
        refine lv_iadd X.1 X.2.1 dX9_asks_54 ?_
        obtain ⟨hi11, h⟩ := gd_some h
        refine r_iald X w lyM_1 hi11 dX9_asks_55 ?_
        refine lv_iconst (v := (1 : Int32)) X.1 X.2.1 dX9_asks_56 (by decide) ?_
        refine lv_icmp_ne (tgt := 100) X.1 X.2.1 dX9_asks_57 (by decide) (fun c12 => ?_) (fun c12 => ?_)
        · rw [if_neg c12] at h
          exact wX9_asks_b100 X M hk23 w (lv_sub hl [0, 1, 2, 3] rfl) h
        · rw [if_pos c12] at h
          exact wX9_asks_b60 X M w (lv_sub hl [0, 1, 3] rfl) h
set_option maxRecDepth 100000 in
set_option maxHeartbeats 4000000 in
theorem wX9_asks_b23 {p : Program} {l : Launch} {e : Env} {s : State} {m : MethodId} {args : Array Value} {below : List Frame} {meth : Method} {c : Code} {D : va_G} {ca : Nat → ClassId} {ad : Nat → Nat}  {mem' : Mm} {r : Int32} (X : CallFix p m c cX9_asks 5 s args TT RX9) (M : Mt meth (some .int))  : ∀ (n : Nat) (mem : Mm) (x1 : Int32) (x2 : Int32) (x3 : Int32) (H : Heap) (locs : List Loc) (ls : Array Slot)  (_ : Wd D ca ad layM (AA ad layM.length) s.heap s mem H locs) (_ : lv_has ls 5 [(0, .ref (ad 0)), (1, .int x1), (2, .int x2), (3, .int x3)]) (_ : fX9_asks_b23  n mem x1 x2 x3 = some (mem', r)), W p l e (rmx 4 106) s m args below meth c H locs 0 0 (EndI D ca ad layM mem' r below args s) (F0 m 23 ls []) := by
  intro n
  induction n with
  | zero => intro mem x1 x2 x3 H locs ls  w hl h; exact (nofun : (none : Option (Mm × Int32)) = _ → _) h
  | succ n ih => intro mem x1 x2 x3 H locs ls  w hl h; exact wX9_asks_b23_s X M  ih  w hl h
def fX9_asks (mem : Mm) (a1 : Int32) (a2 : Int32) : Option (Mm × Int32) :=
  wk mem 0 14 (0 : Int32) (fun m1 => gd (321 : Int32) 345 (gd (321 : Int32) 345 (wk m1 1 (321 : Int32).toNatClampNeg ((m1 1 (321 : Int32).toNatClampNeg) + (1 : Int32)) (fun m4 => bd (fX9_latestThatFits m4 a1) (fun r5 => fX9_asks_b23 2000 m4 a1 a2 r5)))))
set_option maxRecDepth 100000 in
set_option maxHeartbeats 4000000 in
theorem kX9_asks (l : Launch) (D : va_G) (ca : Nat → ClassId) (ad : Nat → Nat) (mem : Mm) (a1 : Int32) (a2 : Int32)  {mem' : Mm} {r : Int32} (h : fX9_asks mem a1 a2 = some (mem', r)) : CtI l yX9_asks cX9_asks 5 (some .int) (rmx 4 106) D ca ad layM mem [.ref (ad 0), .int a1, .int a2] mem' r := by
  refine CtI.of (by decide) (Nat.le_of_ble_eq_true rfl) ?_
  intro p e s m args below meth c H locs ls X M w hl
  replace X : CallFix p m c cX9_asks 5 s args TT RX9 := X
  replace hl : lv_has ls 5 [(0, .ref (ad 0)), (1, .int a1), (2, .int a2)] := hl
  unfold fX9_asks at h
  refine lv_aload_n X.1 X.2.1 dX9_asks_0 rfl (lv_at hl 0 rfl) ?_
  refine lv_iconst (v := (0 : Int32)) X.1 X.2.1 dX9_asks_1 (by decide) ?_
  refine r_put X w lyM_0 rfl inT9 tyX9 tyX9_ok nmX9 14 rfl (by decide) rfl rfl tw_916 rfl rfl dX9_asks_2 (fun H locs w => ?_)
  obtain ⟨m1, em1, h⟩ := wk_some h
  rw [em1] at w
  refine lv_aload_n X.1 X.2.1 dX9_asks_5 rfl (lv_at hl 0 rfl) ?_
  refine r_getr (b2 := 1) X w lyM_0 rfl inT9 1 rfl rfl (by decide) rfl tw_903 dX9_asks_6 ?_
  refine lv_sipush (v := (321 : Int32)) X.1 X.2.1 dX9_asks_9 (by decide) ?_
  refine lv_dup2_11 X.1 X.2.1 dX9_asks_12 rfl rfl ?_
  obtain ⟨hi2, h⟩ := gd_some h
  refine r_iald X w lyM_1 hi2 dX9_asks_13 ?_
  refine lv_iconst (v := (1 : Int32)) X.1 X.2.1 dX9_asks_14 (by decide) ?_
  refine lv_iadd X.1 X.2.1 dX9_asks_15 ?_
  obtain ⟨hi3, h⟩ := gd_some h
  refine r_iast X w lyM_1 hi3 dX9_asks_16 (fun H locs w => ?_)
  obtain ⟨m4, em4, h⟩ := wk_some h
  rw [em4] at w
  refine lv_aload_n X.1 X.2.1 dX9_asks_17 rfl (lv_at hl 0 rfl) ?_
  refine lv_iload_n X.1 X.2.1 dX9_asks_18 rfl (lv_at hl 1 rfl) ?_
  obtain ⟨r5, hr5, h⟩ := bd_some h
  refine r_cVi (As := [.int a1]) (rest := []) X w lyM_0 rfl (kX9_latestThatFits  l D ca ad m4 a1  hr5) (gTV tw_1050 tw_1052 tw_36 tw_75 tw_1053) hdX9_latestThatFits (by decide) rfl hl.1 rfl (Nat.le_of_ble_eq_true rfl) dX9_asks_19 ⟨Nat.zero_le _, Nat.zero_le _⟩ (fun H locs w => ?_)
  refine lv_istore_n (lv' := [(3, .int r5), (0, .ref (ad 0)), (1, .int a1), (2, .int a2)]) X.1 X.2.1 dX9_asks_22 rfl hl (by decide) rfl (fun ls hl => ?_)
  exact wX9_asks_b23 X M _ _ _ _ _ H locs ls w (lv_sub hl [1, 2, 3, 0] rfl) h
/-! WalkHouseModel.canAsk(II)Z (R) -/
theorem hdX9_canAsk : yX9_canAsk.cls = RX9 ∧ yX9_canAsk.cls ≠ "java/lang/invoke/MethodHandle" ∧ yX9_canAsk.cls ≠ "java/lang/invoke/VarHandle" ∧ (parseMethodDescriptor yX9_canAsk.desc).map (fun d => d.parameters.length) = some 2 := by decide +kernel
def fX9_canAsk (mem : Mm) (a1 : Int32) (a2 : Int32) : Option Int32 :=
  if (fX9_isAddress a1) = 0 then some (0 : Int32) else if (fX9_within a2 (0 : Int32) (7 : Int32)) = 0 then some (0 : Int32) else gd (344 : Int32) 345 (if (mem 1 (344 : Int32).toNatClampNeg) < 0 then some (0 : Int32) else some (1 : Int32))
set_option maxRecDepth 100000 in
set_option maxHeartbeats 4000000 in
theorem kX9_canAsk (l : Launch) (D : va_G) (ca : Nat → ClassId) (ad : Nat → Nat) (mem : Mm) (a1 : Int32) (a2 : Int32)  {r : Int32} (h : fX9_canAsk mem a1 a2 = some r) : CtI l yX9_canAsk cX9_canAsk 3 (some .boolean) (rmx 2 42) D ca ad layM mem [.ref (ad 0), .int a1, .int a2] mem r := by
  refine CtI.of (by decide) (Nat.le_of_ble_eq_true rfl) ?_
  intro p e s m args below meth c H locs ls X M w hl
  replace X : CallFix p m c cX9_canAsk 3 s args TT RX9 := X
  replace hl : lv_has ls 3 [(0, .ref (ad 0)), (1, .int a1), (2, .int a2)] := hl
  unfold fX9_canAsk at h
  refine lv_iload_n X.1 X.2.1 dX9_canAsk_0 rfl (lv_at hl 1 rfl) ?_
  refine r_cSi (As := [.int a1]) (rest := []) X w (kX9_isAddress  l D ca ad mem a1  rfl) (gTS tw_1043 tw_1044 tw_75 tw_1045) hdX9_isAddress (by decide) rfl hl.1 rfl (Nat.le_of_ble_eq_true rfl) dX9_canAsk_1 ⟨Nat.zero_le _, Nat.zero_le _⟩ (fun H locs w => ?_)
  refine lv_if_eq (tgt := 32) X.1 X.2.1 dX9_canAsk_4 (by decide) (fun c1 => ?_) (fun c1 => ?_)
  · rw [if_pos c1] at h
    refine lv_iconst (v := (0 : Int32)) X.1 X.2.1 dX9_canAsk_32 (by decide) ?_
    obtain rfl := Option.some.inj h
    exact r_zret X M w (by decide) dX9_canAsk_33
  · rw [if_neg c1] at h
    refine lv_iload_n X.1 X.2.1 dX9_canAsk_7 rfl (lv_at hl 2 rfl) ?_
    refine lv_iconst (v := (0 : Int32)) X.1 X.2.1 dX9_canAsk_8 (by decide) ?_
    refine lv_bipush (v := (7 : Int32)) X.1 X.2.1 dX9_canAsk_9 (by decide) ?_
    refine r_cSi (As := [.int a2, .int (0 : Int32), .int (7 : Int32)]) (rest := []) X w (kX9_within  l D ca ad mem a2 (0 : Int32) (7 : Int32)  rfl) (gTS tw_983 tw_984 tw_75 tw_985) hdX9_within (by decide) rfl hl.1 rfl (Nat.le_of_ble_eq_true rfl) dX9_canAsk_11 ⟨Nat.zero_le _, Nat.zero_le _⟩ (fun H locs w => ?_)
    refine lv_if_eq (tgt := 32) X.1 X.2.1 dX9_canAsk_14 (by decide) (fun c2 => ?_) (fun c2 => ?_)
    · rw [if_pos c2] at h
      refine lv_iconst (v := (0 : Int32)) X.1 X.2.1 dX9_canAsk_32 (by decide) ?_
      obtain rfl := Option.some.inj h
      exact r_zret X M w (by decide) dX9_canAsk_33
    · rw [if_neg c2] at h
      refine lv_aload_n X.1 X.2.1 dX9_canAsk_17 rfl (lv_at hl 0 rfl) ?_
      refine r_getr (b2 := 1) X w lyM_0 rfl inT9 1 rfl rfl (by decide) rfl tw_903 dX9_canAsk_18 ?_
      refine lv_sipush (v := (344 : Int32)) X.1 X.2.1 dX9_canAsk_21 (by decide) ?_
      obtain ⟨hi3, h⟩ := gd_some h
      refine r_iald X w lyM_1 hi3 dX9_canAsk_24 ?_
      refine lv_if_lt (tgt := 32) X.1 X.2.1 dX9_canAsk_25 (by decide) (fun c4 => ?_) (fun c4 => ?_)
      · rw [if_pos c4] at h
        refine lv_iconst (v := (0 : Int32)) X.1 X.2.1 dX9_canAsk_32 (by decide) ?_
        obtain rfl := Option.some.inj h
        exact r_zret X M w (by decide) dX9_canAsk_33
      · rw [if_neg c4] at h
        refine lv_iconst (v := (1 : Int32)) X.1 X.2.1 dX9_canAsk_28 (by decide) ?_
        refine lv_goto (tgt := 33) X.1 X.2.1 dX9_canAsk_29 (by decide) ?_
        obtain rfl := Option.some.inj h
        exact r_zret X M w (by decide) dX9_canAsk_33
/-! WalkHouseModel.access(II)I (W) -/
theorem hdX9_access : yX9_access.cls = RX9 ∧ yX9_access.cls ≠ "java/lang/invoke/MethodHandle" ∧ yX9_access.cls ≠ "java/lang/invoke/VarHandle" ∧ (parseMethodDescriptor yX9_access.desc).map (fun d => d.parameters.length) = some 2 := by decide +kernel
def fX9_access (mem : Mm) (a1 : Int32) (a2 : Int32) : Option (Mm × Int32) :=
  wk mem 0 0 (0 : Int32) (fun m1 => bd (fX9_canAsk m1 a1 a2) (fun r2 => if r2 = 0 then some (m1, (-1 : Int32)) else bw (fX9_asks m1 a1 a2) (fun m5 r4 => some (m5, r4))))
set_option maxRecDepth 100000 in
set_option maxHeartbeats 4000000 in
theorem kX9_access (l : Launch) (D : va_G) (ca : Nat → ClassId) (ad : Nat → Nat) (mem : Mm) (a1 : Int32) (a2 : Int32)  {mem' : Mm} {r : Int32} (h : fX9_access mem a1 a2 = some (mem', r)) : CtI l yX9_access cX9_access 3 (some .int) (rmx 5 130) D ca ad layM mem [.ref (ad 0), .int a1, .int a2] mem' r := by
  refine CtI.of (by decide) (Nat.le_of_ble_eq_true rfl) ?_
  intro p e s m args below meth c H locs ls X M w hl
  replace X : CallFix p m c cX9_access 3 s args TT RX9 := X
  replace hl : lv_has ls 3 [(0, .ref (ad 0)), (1, .int a1), (2, .int a2)] := hl
  unfold fX9_access at h
  refine lv_aload_n X.1 X.2.1 dX9_access_0 rfl (lv_at hl 0 rfl) ?_
  refine lv_iconst (v := (0 : Int32)) X.1 X.2.1 dX9_access_1 (by decide) ?_
  refine r_put X w lyM_0 rfl inT9 tyX9 tyX9_ok nmX9 0 rfl (by decide) rfl rfl tw_902 rfl rfl dX9_access_2 (fun H locs w => ?_)
  obtain ⟨m1, em1, h⟩ := wk_some h
  rw [em1] at w
  refine lv_aload_n X.1 X.2.1 dX9_access_5 rfl (lv_at hl 0 rfl) ?_
  refine lv_iload_n X.1 X.2.1 dX9_access_6 rfl (lv_at hl 1 rfl) ?_
  refine lv_iload_n X.1 X.2.1 dX9_access_7 rfl (lv_at hl 2 rfl) ?_
  obtain ⟨r2, hr2, h⟩ := bd_some h
  refine r_cVi (As := [.int a1, .int a2]) (rest := []) X w lyM_0 rfl (kX9_canAsk  l D ca ad m1 a1 a2  hr2) (gTV tw_1039 tw_1041 tw_34 tw_75 tw_1042) hdX9_canAsk (by decide) rfl hl.1 rfl (Nat.le_of_ble_eq_true rfl) dX9_access_8 ⟨Nat.zero_le _, Nat.zero_le _⟩ (fun H locs w => ?_)
  refine lv_if_eq (tgt := 23) X.1 X.2.1 dX9_access_11 (by decide) (fun c3 => ?_) (fun c3 => ?_)
  · rw [if_pos c3] at h
    refine lv_iconst (v := (-1 : Int32)) X.1 X.2.1 dX9_access_23 (by decide) ?_
    obtain ⟨rfl, rfl⟩ := Prod.mk.inj (Option.some.inj h)
    exact r_iret X M w dX9_access_24
  · rw [if_neg c3] at h
    refine lv_aload_n X.1 X.2.1 dX9_access_14 rfl (lv_at hl 0 rfl) ?_
    refine lv_iload_n X.1 X.2.1 dX9_access_15 rfl (lv_at hl 1 rfl) ?_
    refine lv_iload_n X.1 X.2.1 dX9_access_16 rfl (lv_at hl 2 rfl) ?_
    obtain ⟨m5, r4, hr4, h⟩ := bw_some h
    refine r_cVi (As := [.int a1, .int a2]) (rest := []) X w lyM_0 rfl (kX9_asks  l D ca ad m1 a1 a2  hr4) (gTV tw_1046 tw_1048 tw_35 tw_75 tw_1049) hdX9_asks (by decide) rfl hl.1 rfl (Nat.le_of_ble_eq_true rfl) dX9_access_17 ⟨Nat.zero_le _, Nat.zero_le _⟩ (fun H locs w => ?_)
    refine lv_goto (tgt := 24) X.1 X.2.1 dX9_access_20 (by decide) ?_
    obtain ⟨rfl, rfl⟩ := Prod.mk.inj (Option.some.inj h)
    exact r_iret X M w dX9_access_24
/-! WalkHouseModel.foretells(II)I (W) -/
theorem hdX9_foretells : yX9_foretells.cls = RX9 ∧ yX9_foretells.cls ≠ "java/lang/invoke/MethodHandle" ∧ yX9_foretells.cls ≠ "java/lang/invoke/VarHandle" ∧ (parseMethodDescriptor yX9_foretells.desc).map (fun d => d.parameters.length) = some 2 := by decide +kernel
def fX9_foretells_b37_s  (k37 : Mm → Int32 → Int32 → Option (Mm × Int32)) (mem : Mm) (x3 : Int32) (x4 : Int32) : Option (Mm × Int32) :=
  if (345 : Int32) ≤ x4 then some (mem, x3) else gd x4 345 (gd x4 345 (wk mem 1 x4.toNatClampNeg (mem 2 x4.toNatClampNeg) (fun m4 => k37 m4 x3 (x4 + (1 : Int32)))))
def fX9_foretells_b37  : Nat → Mm → Int32 → Int32 → Option (Mm × Int32)
  | 0 => fun _ _ _ => none
  | n + 1 => fX9_foretells_b37_s  (fX9_foretells_b37  n)
set_option maxRecDepth 100000 in
set_option maxHeartbeats 4000000 in
theorem wX9_foretells_b37_s {p : Program} {l : Launch} {e : Env} {s : State} {m : MethodId} {args : Array Value} {below : List Frame} {meth : Method} {c : Code} {D : va_G} {ca : Nat → ClassId} {ad : Nat → Nat} {H : Heap} {locs : List Loc} {ls : Array Slot} {mem : Mm} {x3 : Int32} {x4 : Int32}  {k37 : Mm → Int32 → Int32 → Option (Mm × Int32)} {mem' : Mm} {r : Int32} (X : CallFix p m c cX9_foretells 5 s args TT RX9) (M : Mt meth (some .int))  (hk37 : ∀ (mem : Mm) (x3 : Int32) (x4 : Int32) (H : Heap) (locs : List Loc) (ls : Array Slot) , Wd D ca ad layM (AA ad layM.length) s.heap s mem H locs → lv_has ls 5 [(0, .ref (ad 0)), (3, .int x3), (4, .int x4)] → k37 mem x3 x4 = some (mem', r) → W p l e (rmx 5 130) s m args below meth c H locs 0 0 (EndI D ca ad layM mem' r below args s) (F0 m 37 ls []))  (w : Wd D ca ad layM (AA ad layM.length) s.heap s mem H locs) (hl : lv_has ls 5 [(0, .ref (ad 0)), (3, .int x3), (4, .int x4)]) (h : fX9_foretells_b37_s  k37 mem x3 x4 = some (mem', r)) : W p l e (rmx 5 130) s m args below meth c H locs 0 0 (EndI D ca ad layM mem' r below args s) (F0 m 37 ls []) := by
  unfold fX9_foretells_b37_s at h
  refine lv_iload X.1 X.2.1 dX9_foretells_37 (lv_at hl 2 rfl) ?_
  refine lv_sipush (v := (345 : Int32)) X.1 X.2.1 dX9_foretells_39 (by decide) ?_
  refine lv_icmp_ge (tgt := 65) X.1 X.2.1 dX9_foretells_42 (by decide) (fun c1 => ?_) (fun c1 => ?_)
  · rw [if_pos c1] at h
    refine lv_iload_n X.1 X.2.1 dX9_foretells_65 rfl (lv_at hl 1 rfl) ?_
    obtain ⟨rfl, rfl⟩ := Prod.mk.inj (Option.some.inj h)
    exact r_iret X M w dX9_foretells_66
  · rw [if_neg c1] at h
    refine lv_aload_n X.1 X.2.1 dX9_foretells_45 rfl (lv_at hl 0 rfl) ?_
    refine r_getr (b2 := 1) X w lyM_0 rfl inT9 1 rfl rfl (by decide) rfl tw_903 dX9_foretells_46 ?_
    refine lv_iload X.1 X.2.1 dX9_foretells_49 (lv_at hl 2 rfl) ?_
    refine lv_aload_n X.1 X.2.1 dX9_foretells_51 rfl (lv_at hl 0 rfl) ?_
    refine r_getr (b2 := 2) X w lyM_0 rfl inT9 2 rfl rfl (by decide) rfl tw_904 dX9_foretells_52 ?_
    refine lv_iload X.1 X.2.1 dX9_foretells_55 (lv_at hl 2 rfl) ?_
    obtain ⟨hi2, h⟩ := gd_some h
    refine r_iald X w lyM_2 hi2 dX9_foretells_57 ?_
    obtain ⟨hi3, h⟩ := gd_some h
    refine r_iast X w lyM_1 hi3 dX9_foretells_58 (fun H locs w => ?_)
    obtain ⟨m4, em4, h⟩ := wk_some h
    rw [em4] at w
    refine lv_iinc (v := (x4 + (1 : Int32))) (lv' := [(4, .int (x4 + (1 : Int32))), (0, .ref (ad 0)), (3, .int x3)]) X.1 X.2.1 dX9_foretells_59 hl (k := 2) rfl rfl (by decide) rfl (fun ls hl => ?_)
    refine lv_goto (tgt := 37) X.1 X.2.1 dX9_foretells_62 (by decide) ?_
    exact hk37 _ _ _ H locs ls w (lv_sub hl [1, 2, 0] rfl) h
set_option maxRecDepth 100000 in
set_option maxHeartbeats 4000000 in
theorem wX9_foretells_b37 {p : Program} {l : Launch} {e : Env} {s : State} {m : MethodId} {args : Array Value} {below : List Frame} {meth : Method} {c : Code} {D : va_G} {ca : Nat → ClassId} {ad : Nat → Nat}  {mem' : Mm} {r : Int32} (X : CallFix p m c cX9_foretells 5 s args TT RX9) (M : Mt meth (some .int))  : ∀ (n : Nat) (mem : Mm) (x3 : Int32) (x4 : Int32) (H : Heap) (locs : List Loc) (ls : Array Slot)  (_ : Wd D ca ad layM (AA ad layM.length) s.heap s mem H locs) (_ : lv_has ls 5 [(0, .ref (ad 0)), (3, .int x3), (4, .int x4)]) (_ : fX9_foretells_b37  n mem x3 x4 = some (mem', r)), W p l e (rmx 5 130) s m args below meth c H locs 0 0 (EndI D ca ad layM mem' r below args s) (F0 m 37 ls []) := by
  intro n
  induction n with
  | zero => intro mem x3 x4 H locs ls  w hl h; exact (nofun : (none : Option (Mm × Int32)) = _ → _) h
  | succ n ih => intro mem x3 x4 H locs ls  w hl h; exact wX9_foretells_b37_s X M  ih  w hl h
def fX9_foretells_b2_s  (k2 : Mm → Int32 → Int32 → Int32 → Option (Mm × Int32)) (mem : Mm) (x1 : Int32) (x2 : Int32) (x3 : Int32) : Option (Mm × Int32) :=
  if (345 : Int32) ≤ x3 then bw (fX9_asks mem x1 x2) (fun m3 r2 => fX9_foretells_b37 2000 m3 r2 (0 : Int32)) else gd x3 345 (gd x3 345 (wk mem 2 x3.toNatClampNeg (mem 1 x3.toNatClampNeg) (fun m6 => k2 m6 x1 x2 (x3 + (1 : Int32)))))
def fX9_foretells_b2  : Nat → Mm → Int32 → Int32 → Int32 → Option (Mm × Int32)
  | 0 => fun _ _ _ _ => none
  | n + 1 => fX9_foretells_b2_s  (fX9_foretells_b2  n)
set_option maxRecDepth 100000 in
set_option maxHeartbeats 4000000 in
theorem wX9_foretells_b2_s {p : Program} {l : Launch} {e : Env} {s : State} {m : MethodId} {args : Array Value} {below : List Frame} {meth : Method} {c : Code} {D : va_G} {ca : Nat → ClassId} {ad : Nat → Nat} {H : Heap} {locs : List Loc} {ls : Array Slot} {mem : Mm} {x1 : Int32} {x2 : Int32} {x3 : Int32}  {k2 : Mm → Int32 → Int32 → Int32 → Option (Mm × Int32)} {mem' : Mm} {r : Int32} (X : CallFix p m c cX9_foretells 5 s args TT RX9) (M : Mt meth (some .int))  (hk2 : ∀ (mem : Mm) (x1 : Int32) (x2 : Int32) (x3 : Int32) (H : Heap) (locs : List Loc) (ls : Array Slot) , Wd D ca ad layM (AA ad layM.length) s.heap s mem H locs → lv_has ls 5 [(0, .ref (ad 0)), (1, .int x1), (2, .int x2), (3, .int x3)] → k2 mem x1 x2 x3 = some (mem', r) → W p l e (rmx 5 130) s m args below meth c H locs 0 0 (EndI D ca ad layM mem' r below args s) (F0 m 2 ls []))  (w : Wd D ca ad layM (AA ad layM.length) s.heap s mem H locs) (hl : lv_has ls 5 [(0, .ref (ad 0)), (1, .int x1), (2, .int x2), (3, .int x3)]) (h : fX9_foretells_b2_s  k2 mem x1 x2 x3 = some (mem', r)) : W p l e (rmx 5 130) s m args below meth c H locs 0 0 (EndI D ca ad layM mem' r below args s) (F0 m 2 ls []) := by
  unfold fX9_foretells_b2_s at h
  refine lv_iload_n X.1 X.2.1 dX9_foretells_2 rfl (lv_at hl 3 rfl) ?_
  refine lv_sipush (v := (345 : Int32)) X.1 X.2.1 dX9_foretells_3 (by decide) ?_
  refine lv_icmp_ge (tgt := 27) X.1 X.2.1 dX9_foretells_6 (by decide) (fun c1 => ?_) (fun c1 => ?_)
  · rw [if_pos c1] at h
    refine lv_aload_n X.1 X.2.1 dX9_foretells_27 rfl (lv_at hl 0 rfl) ?_
    refine lv_iload_n X.1 X.2.1 dX9_foretells_28 rfl (lv_at hl 1 rfl) ?_
    refine lv_iload_n X.1 X.2.1 dX9_foretells_29 rfl (lv_at hl 2 rfl) ?_
    obtain ⟨m3, r2, hr2, h⟩ := bw_some h
    refine r_cVi (As := [.int x1, .int x2]) (rest := []) X w lyM_0 rfl (kX9_asks  l D ca ad mem x1 x2  hr2) (gTV tw_1046 tw_1048 tw_35 tw_75 tw_1049) hdX9_asks (by decide) rfl hl.1 rfl (Nat.le_of_ble_eq_true rfl) dX9_foretells_30 ⟨Nat.zero_le _, Nat.zero_le _⟩ (fun H locs w => ?_)
    refine lv_istore_n (lv' := [(3, .int r2), (0, .ref (ad 0)), (1, .int x1), (2, .int x2)]) X.1 X.2.1 dX9_foretells_33 rfl hl (by decide) rfl (fun ls hl => ?_)
    refine lv_iconst (v := (0 : Int32)) X.1 X.2.1 dX9_foretells_34 (by decide) ?_
    refine lv_istore (lv' := [(4, .int (0 : Int32)), (3, .int r2), (0, .ref (ad 0)), (1, .int x1), (2, .int x2)]) X.1 X.2.1 dX9_foretells_35 hl (by decide) rfl (fun ls hl => ?_)
    exact wX9_foretells_b37 X M _ _ _ _ H locs ls w (lv_sub hl [2, 1, 0] rfl) h
  · rw [if_neg c1] at h
    refine lv_aload_n X.1 X.2.1 dX9_foretells_9 rfl (lv_at hl 0 rfl) ?_
    refine r_getr (b2 := 2) X w lyM_0 rfl inT9 2 rfl rfl (by decide) rfl tw_904 dX9_foretells_10 ?_
    refine lv_iload_n X.1 X.2.1 dX9_foretells_13 rfl (lv_at hl 3 rfl) ?_
    refine lv_aload_n X.1 X.2.1 dX9_foretells_14 rfl (lv_at hl 0 rfl) ?_
    refine r_getr (b2 := 1) X w lyM_0 rfl inT9 1 rfl rfl (by decide) rfl tw_903 dX9_foretells_15 ?_
    refine lv_iload_n X.1 X.2.1 dX9_foretells_18 rfl (lv_at hl 3 rfl) ?_
    obtain ⟨hi4, h⟩ := gd_some h
    refine r_iald X w lyM_1 hi4 dX9_foretells_19 ?_
    obtain ⟨hi5, h⟩ := gd_some h
    refine r_iast X w lyM_2 hi5 dX9_foretells_20 (fun H locs w => ?_)
    obtain ⟨m6, em6, h⟩ := wk_some h
    rw [em6] at w
    refine lv_iinc (v := (x3 + (1 : Int32))) (lv' := [(3, .int (x3 + (1 : Int32))), (0, .ref (ad 0)), (1, .int x1), (2, .int x2)]) X.1 X.2.1 dX9_foretells_21 hl (k := 3) rfl rfl (by decide) rfl (fun ls hl => ?_)
    refine lv_goto (tgt := 2) X.1 X.2.1 dX9_foretells_24 (by decide) ?_
    exact hk2 _ _ _ _ H locs ls w (lv_sub hl [1, 2, 3, 0] rfl) h
set_option maxRecDepth 100000 in
set_option maxHeartbeats 4000000 in
theorem wX9_foretells_b2 {p : Program} {l : Launch} {e : Env} {s : State} {m : MethodId} {args : Array Value} {below : List Frame} {meth : Method} {c : Code} {D : va_G} {ca : Nat → ClassId} {ad : Nat → Nat}  {mem' : Mm} {r : Int32} (X : CallFix p m c cX9_foretells 5 s args TT RX9) (M : Mt meth (some .int))  : ∀ (n : Nat) (mem : Mm) (x1 : Int32) (x2 : Int32) (x3 : Int32) (H : Heap) (locs : List Loc) (ls : Array Slot)  (_ : Wd D ca ad layM (AA ad layM.length) s.heap s mem H locs) (_ : lv_has ls 5 [(0, .ref (ad 0)), (1, .int x1), (2, .int x2), (3, .int x3)]) (_ : fX9_foretells_b2  n mem x1 x2 x3 = some (mem', r)), W p l e (rmx 5 130) s m args below meth c H locs 0 0 (EndI D ca ad layM mem' r below args s) (F0 m 2 ls []) := by
  intro n
  induction n with
  | zero => intro mem x1 x2 x3 H locs ls  w hl h; exact (nofun : (none : Option (Mm × Int32)) = _ → _) h
  | succ n ih => intro mem x1 x2 x3 H locs ls  w hl h; exact wX9_foretells_b2_s X M  ih  w hl h
def fX9_foretells (mem : Mm) (a1 : Int32) (a2 : Int32) : Option (Mm × Int32) :=
  fX9_foretells_b2 2000 mem a1 a2 (0 : Int32)
set_option maxRecDepth 100000 in
set_option maxHeartbeats 4000000 in
theorem kX9_foretells (l : Launch) (D : va_G) (ca : Nat → ClassId) (ad : Nat → Nat) (mem : Mm) (a1 : Int32) (a2 : Int32)  {mem' : Mm} {r : Int32} (h : fX9_foretells mem a1 a2 = some (mem', r)) : CtI l yX9_foretells cX9_foretells 5 (some .int) (rmx 5 130) D ca ad layM mem [.ref (ad 0), .int a1, .int a2] mem' r := by
  refine CtI.of (by decide) (Nat.le_of_ble_eq_true rfl) ?_
  intro p e s m args below meth c H locs ls X M w hl
  replace X : CallFix p m c cX9_foretells 5 s args TT RX9 := X
  replace hl : lv_has ls 5 [(0, .ref (ad 0)), (1, .int a1), (2, .int a2)] := hl
  unfold fX9_foretells at h
  refine lv_iconst (v := (0 : Int32)) X.1 X.2.1 dX9_foretells_0 (by decide) ?_
  refine lv_istore_n (lv' := [(3, .int (0 : Int32)), (0, .ref (ad 0)), (1, .int a1), (2, .int a2)]) X.1 X.2.1 dX9_foretells_1 rfl hl (by decide) rfl (fun ls hl => ?_)
  exact wX9_foretells_b2 X M _ _ _ _ _ H locs ls w (lv_sub hl [1, 2, 3, 0] rfl) h
/-! WalkHouseModel.would(II)I (W) -/
theorem hdX9_would : yX9_would.cls = RX9 ∧ yX9_would.cls ≠ "java/lang/invoke/MethodHandle" ∧ yX9_would.cls ≠ "java/lang/invoke/VarHandle" ∧ (parseMethodDescriptor yX9_would.desc).map (fun d => d.parameters.length) = some 2 := by decide +kernel
def fX9_would (mem : Mm) (a1 : Int32) (a2 : Int32) : Option (Mm × Int32) :=
  wk mem 0 0 (0 : Int32) (fun m1 => bd (fX9_canAsk m1 a1 a2) (fun r2 => if r2 = 0 then some (m1, (-1 : Int32)) else bw (fX9_foretells m1 a1 a2) (fun m5 r4 => some (m5, r4))))
set_option maxRecDepth 100000 in
set_option maxHeartbeats 4000000 in
theorem kX9_would (l : Launch) (D : va_G) (ca : Nat → ClassId) (ad : Nat → Nat) (mem : Mm) (a1 : Int32) (a2 : Int32)  {mem' : Mm} {r : Int32} (h : fX9_would mem a1 a2 = some (mem', r)) : CtI l yX9_would cX9_would 3 (some .int) (rmx 6 154) D ca ad layM mem [.ref (ad 0), .int a1, .int a2] mem' r := by
  refine CtI.of (by decide) (Nat.le_of_ble_eq_true rfl) ?_
  intro p e s m args below meth c H locs ls X M w hl
  replace X : CallFix p m c cX9_would 3 s args TT RX9 := X
  replace hl : lv_has ls 3 [(0, .ref (ad 0)), (1, .int a1), (2, .int a2)] := hl
  unfold fX9_would at h
  refine lv_aload_n X.1 X.2.1 dX9_would_0 rfl (lv_at hl 0 rfl) ?_
  refine lv_iconst (v := (0 : Int32)) X.1 X.2.1 dX9_would_1 (by decide) ?_
  refine r_put X w lyM_0 rfl inT9 tyX9 tyX9_ok nmX9 0 rfl (by decide) rfl rfl tw_902 rfl rfl dX9_would_2 (fun H locs w => ?_)
  obtain ⟨m1, em1, h⟩ := wk_some h
  rw [em1] at w
  refine lv_aload_n X.1 X.2.1 dX9_would_5 rfl (lv_at hl 0 rfl) ?_
  refine lv_iload_n X.1 X.2.1 dX9_would_6 rfl (lv_at hl 1 rfl) ?_
  refine lv_iload_n X.1 X.2.1 dX9_would_7 rfl (lv_at hl 2 rfl) ?_
  obtain ⟨r2, hr2, h⟩ := bd_some h
  refine r_cVi (As := [.int a1, .int a2]) (rest := []) X w lyM_0 rfl (kX9_canAsk  l D ca ad m1 a1 a2  hr2) (gTV tw_1039 tw_1041 tw_34 tw_75 tw_1042) hdX9_canAsk (by decide) rfl hl.1 rfl (Nat.le_of_ble_eq_true rfl) dX9_would_8 ⟨Nat.zero_le _, Nat.zero_le _⟩ (fun H locs w => ?_)
  refine lv_if_eq (tgt := 23) X.1 X.2.1 dX9_would_11 (by decide) (fun c3 => ?_) (fun c3 => ?_)
  · rw [if_pos c3] at h
    refine lv_iconst (v := (-1 : Int32)) X.1 X.2.1 dX9_would_23 (by decide) ?_
    obtain ⟨rfl, rfl⟩ := Prod.mk.inj (Option.some.inj h)
    exact r_iret X M w dX9_would_24
  · rw [if_neg c3] at h
    refine lv_aload_n X.1 X.2.1 dX9_would_14 rfl (lv_at hl 0 rfl) ?_
    refine lv_iload_n X.1 X.2.1 dX9_would_15 rfl (lv_at hl 1 rfl) ?_
    refine lv_iload_n X.1 X.2.1 dX9_would_16 rfl (lv_at hl 2 rfl) ?_
    obtain ⟨m5, r4, hr4, h⟩ := bw_some h
    refine r_cVi (As := [.int a1, .int a2]) (rest := []) X w lyM_0 rfl (kX9_foretells  l D ca ad m1 a1 a2  hr4) (gTV tw_1102 tw_1104 tw_45 tw_75 tw_1105) hdX9_foretells (by decide) rfl hl.1 rfl (Nat.le_of_ble_eq_true rfl) dX9_would_17 ⟨Nat.zero_le _, Nat.zero_le _⟩ (fun H locs w => ?_)
    refine lv_goto (tgt := 24) X.1 X.2.1 dX9_would_20 (by decide) ?_
    obtain ⟨rfl, rfl⟩ := Prod.mk.inj (Option.some.inj h)
    exact r_iret X M w dX9_would_24
/-! WalkHouseModel.steps(II)I (W) -/
theorem hdX9_steps : yX9_steps.cls = RX9 ∧ yX9_steps.cls ≠ "java/lang/invoke/MethodHandle" ∧ yX9_steps.cls ≠ "java/lang/invoke/VarHandle" ∧ (parseMethodDescriptor yX9_steps.desc).map (fun d => d.parameters.length) = some 2 := by decide +kernel
def fX9_steps (mem : Mm) (a1 : Int32) (a2 : Int32) : Option (Mm × Int32) :=
  wk mem 0 0 (0 : Int32) (fun m1 => bd (fX9_canAsk m1 a1 a2) (fun r2 => if r2 = 0 then some (m1, (-1 : Int32)) else bw (fX9_foretells m1 a1 a2) (fun m5 r4 => if r4 = (-1 : Int32) then some (m5, (-1 : Int32)) else some (m5, (m5 0 14)))))
set_option maxRecDepth 100000 in
set_option maxHeartbeats 4000000 in
theorem kX9_steps (l : Launch) (D : va_G) (ca : Nat → ClassId) (ad : Nat → Nat) (mem : Mm) (a1 : Int32) (a2 : Int32)  {mem' : Mm} {r : Int32} (h : fX9_steps mem a1 a2 = some (mem', r)) : CtI l yX9_steps cX9_steps 4 (some .int) (rmx 6 154) D ca ad layM mem [.ref (ad 0), .int a1, .int a2] mem' r := by
  refine CtI.of (by decide) (Nat.le_of_ble_eq_true rfl) ?_
  intro p e s m args below meth c H locs ls X M w hl
  replace X : CallFix p m c cX9_steps 4 s args TT RX9 := X
  replace hl : lv_has ls 4 [(0, .ref (ad 0)), (1, .int a1), (2, .int a2)] := hl
  unfold fX9_steps at h
  refine lv_aload_n X.1 X.2.1 dX9_steps_0 rfl (lv_at hl 0 rfl) ?_
  refine lv_iconst (v := (0 : Int32)) X.1 X.2.1 dX9_steps_1 (by decide) ?_
  refine r_put X w lyM_0 rfl inT9 tyX9 tyX9_ok nmX9 0 rfl (by decide) rfl rfl tw_902 rfl rfl dX9_steps_2 (fun H locs w => ?_)
  obtain ⟨m1, em1, h⟩ := wk_some h
  rw [em1] at w
  refine lv_aload_n X.1 X.2.1 dX9_steps_5 rfl (lv_at hl 0 rfl) ?_
  refine lv_iload_n X.1 X.2.1 dX9_steps_6 rfl (lv_at hl 1 rfl) ?_
  refine lv_iload_n X.1 X.2.1 dX9_steps_7 rfl (lv_at hl 2 rfl) ?_
  obtain ⟨r2, hr2, h⟩ := bd_some h
  refine r_cVi (As := [.int a1, .int a2]) (rest := []) X w lyM_0 rfl (kX9_canAsk  l D ca ad m1 a1 a2  hr2) (gTV tw_1039 tw_1041 tw_34 tw_75 tw_1042) hdX9_canAsk (by decide) rfl hl.1 rfl (Nat.le_of_ble_eq_true rfl) dX9_steps_8 ⟨Nat.zero_le _, Nat.zero_le _⟩ (fun H locs w => ?_)
  refine lv_if_ne (tgt := 16) X.1 X.2.1 dX9_steps_11 (by decide) (fun c3 => ?_) (fun c3 => ?_)
  · rw [if_neg c3] at h
    refine lv_aload_n X.1 X.2.1 dX9_steps_16 rfl (lv_at hl 0 rfl) ?_
    refine lv_iload_n X.1 X.2.1 dX9_steps_17 rfl (lv_at hl 1 rfl) ?_
    refine lv_iload_n X.1 X.2.1 dX9_steps_18 rfl (lv_at hl 2 rfl) ?_
    obtain ⟨m5, r4, hr4, h⟩ := bw_some h
    refine r_cVi (As := [.int a1, .int a2]) (rest := []) X w lyM_0 rfl (kX9_foretells  l D ca ad m1 a1 a2  hr4) (gTV tw_1102 tw_1104 tw_45 tw_75 tw_1105) hdX9_foretells (by decide) rfl hl.1 rfl (Nat.le_of_ble_eq_true rfl) dX9_steps_19 ⟨Nat.zero_le _, Nat.zero_le _⟩ (fun H locs w => ?_)
    refine lv_istore_n (lv' := [(3, .int r4), (0, .ref (ad 0)), (1, .int a1), (2, .int a2)]) X.1 X.2.1 dX9_steps_22 rfl hl (by decide) rfl (fun ls hl => ?_)
    refine lv_iload_n X.1 X.2.1 dX9_steps_23 rfl (lv_at hl 0 rfl) ?_
    refine lv_iconst (v := (-1 : Int32)) X.1 X.2.1 dX9_steps_24 (by decide) ?_
    refine lv_icmp_ne (tgt := 32) X.1 X.2.1 dX9_steps_25 (by decide) (fun c6 => ?_) (fun c6 => ?_)
    · rw [if_neg c6] at h
      refine lv_aload_n X.1 X.2.1 dX9_steps_32 rfl (lv_at hl 1 rfl) ?_
      refine r_get X w lyM_0 rfl inT9 14 rfl (by decide) rfl tw_916 dX9_steps_33 ?_
      obtain ⟨rfl, rfl⟩ := Prod.mk.inj (Option.some.inj h)
      exact r_iret X M w dX9_steps_36
    · rw [if_pos c6] at h
      refine lv_iconst (v := (-1 : Int32)) X.1 X.2.1 dX9_steps_28 (by decide) ?_
      refine lv_goto (tgt := 36) X.1 X.2.1 dX9_steps_29 (by decide) ?_
      obtain ⟨rfl, rfl⟩ := Prod.mk.inj (Option.some.inj h)
      exact r_iret X M w dX9_steps_36
  · rw [if_pos c3] at h
    refine lv_iconst (v := (-1 : Int32)) X.1 X.2.1 dX9_steps_14 (by decide) ?_
    obtain ⟨rfl, rfl⟩ := Prod.mk.inj (Option.some.inj h)
    exact r_iret X M w dX9_steps_15
/-! WalkHouseModel.keeps(I)V (W) -/
theorem hdX9_keeps : yX9_keeps.cls = RX9 ∧ yX9_keeps.cls ≠ "java/lang/invoke/MethodHandle" ∧ yX9_keeps.cls ≠ "java/lang/invoke/VarHandle" ∧ (parseMethodDescriptor yX9_keeps.desc).map (fun d => d.parameters.length) = some 1 := by decide +kernel
def fX9_keeps (mem : Mm) (a1 : Int32) : Option (Mm × Unit) :=
  lk ((276 : Int32) + ((11 : Int32) * a1)) (fun x_1 => gd (x_1 + (6 : Int32)) 345 (wk mem 1 (x_1 + (6 : Int32)).toNatClampNeg (mem 0 11) (fun m3 => gd (x_1 + (7 : Int32)) 345 (wk m3 1 (x_1 + (7 : Int32)).toNatClampNeg (m3 0 12) (fun m5 => gd (x_1 + (8 : Int32)) 345 (wk m5 1 (x_1 + (8 : Int32)).toNatClampNeg (m5 0 13) (fun m7 => some (m7, ()))))))))
set_option maxRecDepth 100000 in
set_option maxHeartbeats 4000000 in
theorem kX9_keeps (l : Launch) (D : va_G) (ca : Nat → ClassId) (ad : Nat → Nat) (mem : Mm) (a1 : Int32)  {mem' : Mm} {r : Unit} (h : fX9_keeps mem a1 = some (mem', r)) : CtV l yX9_keeps cX9_keeps 3 none (rmx 0 0) D ca ad layM mem [.ref (ad 0), .int a1] mem' := by
  refine CtV.of (by decide) (Nat.le_of_ble_eq_true rfl) ?_
  intro p e s m args below meth c H locs ls X M w hl
  replace X : CallFix p m c cX9_keeps 3 s args TT RX9 := X
  replace hl : lv_has ls 3 [(0, .ref (ad 0)), (1, .int a1)] := hl
  unfold fX9_keeps at h
  refine lv_sipush (v := (276 : Int32)) X.1 X.2.1 dX9_keeps_0 (by decide) ?_
  refine lv_bipush (v := (11 : Int32)) X.1 X.2.1 dX9_keeps_3 (by decide) ?_
  refine lv_iload_n X.1 X.2.1 dX9_keeps_5 rfl (lv_at hl 1 rfl) ?_
  refine lv_imul X.1 X.2.1 dX9_keeps_6 ?_
  refine lv_iadd X.1 X.2.1 dX9_keeps_7 ?_
  obtain ⟨x_1, ex_1, h⟩ := lk_some h
  refine lv_name ex_1 ?_
  refine lv_istore_n (lv' := [(2, .int x_1), (0, .ref (ad 0)), (1, .int a1)]) X.1 X.2.1 dX9_keeps_8 rfl hl (by decide) rfl (fun ls hl => ?_)
  refine lv_aload_n X.1 X.2.1 dX9_keeps_9 rfl (lv_at hl 1 rfl) ?_
  refine r_getr (b2 := 1) X w lyM_0 rfl inT9 1 rfl rfl (by decide) rfl tw_903 dX9_keeps_10 ?_
  refine lv_iload_n X.1 X.2.1 dX9_keeps_13 rfl (lv_at hl 0 rfl) ?_
  refine lv_bipush (v := (6 : Int32)) X.1 X.2.1 dX9_keeps_14 (by decide) ?_
  refine lv_iadd X.1 X.2.1 dX9_keeps_16 ?_
  refine lv_aload_n X.1 X.2.1 dX9_keeps_17 rfl (lv_at hl 1 rfl) ?_
  refine r_get X w lyM_0 rfl inT9 11 rfl (by decide) rfl tw_913 dX9_keeps_18 ?_
  obtain ⟨hi2, h⟩ := gd_some h
  refine r_iast X w lyM_1 hi2 dX9_keeps_21 (fun H locs w => ?_)
  obtain ⟨m3, em3, h⟩ := wk_some h
  rw [em3] at w
  refine lv_aload_n X.1 X.2.1 dX9_keeps_22 rfl (lv_at hl 1 rfl) ?_
  refine r_getr (b2 := 1) X w lyM_0 rfl inT9 1 rfl rfl (by decide) rfl tw_903 dX9_keeps_23 ?_
  refine lv_iload_n X.1 X.2.1 dX9_keeps_26 rfl (lv_at hl 0 rfl) ?_
  refine lv_bipush (v := (7 : Int32)) X.1 X.2.1 dX9_keeps_27 (by decide) ?_
  refine lv_iadd X.1 X.2.1 dX9_keeps_29 ?_
  refine lv_aload_n X.1 X.2.1 dX9_keeps_30 rfl (lv_at hl 1 rfl) ?_
  refine r_get X w lyM_0 rfl inT9 12 rfl (by decide) rfl tw_914 dX9_keeps_31 ?_
  obtain ⟨hi4, h⟩ := gd_some h
  refine r_iast X w lyM_1 hi4 dX9_keeps_34 (fun H locs w => ?_)
  obtain ⟨m5, em5, h⟩ := wk_some h
  rw [em5] at w
  refine lv_aload_n X.1 X.2.1 dX9_keeps_35 rfl (lv_at hl 1 rfl) ?_
  refine r_getr (b2 := 1) X w lyM_0 rfl inT9 1 rfl rfl (by decide) rfl tw_903 dX9_keeps_36 ?_
  refine lv_iload_n X.1 X.2.1 dX9_keeps_39 rfl (lv_at hl 0 rfl) ?_
  refine lv_bipush (v := (8 : Int32)) X.1 X.2.1 dX9_keeps_40 (by decide) ?_
  refine lv_iadd X.1 X.2.1 dX9_keeps_42 ?_
  refine lv_aload_n X.1 X.2.1 dX9_keeps_43 rfl (lv_at hl 1 rfl) ?_
  refine r_get X w lyM_0 rfl inT9 13 rfl (by decide) rfl tw_915 dX9_keeps_44 ?_
  obtain ⟨hi6, h⟩ := gd_some h
  refine r_iast X w lyM_1 hi6 dX9_keeps_47 (fun H locs w => ?_)
  obtain ⟨m7, em7, h⟩ := wk_some h
  rw [em7] at w
  obtain ⟨rfl, -⟩ := Prod.mk.inj (Option.some.inj h)
  exact r_vret X M w dX9_keeps_48
/-! WalkHouseModel.begin(IIIZ)I (W) -/
theorem hdX9_begin : yX9_begin.cls = RX9 ∧ yX9_begin.cls ≠ "java/lang/invoke/MethodHandle" ∧ yX9_begin.cls ≠ "java/lang/invoke/VarHandle" ∧ (parseMethodDescriptor yX9_begin.desc).map (fun d => d.parameters.length) = some 4 := by decide +kernel
def fX9_begin_b157  (mem : Mm) (x5 : Int32) (s1 : Int32) (s2 : Int32) : Option (Mm × Int32) :=
  gd s1 345 (wk mem 1 s1.toNatClampNeg s2 (fun m2 => gd (x5 + (5 : Int32)) 345 (wk m2 1 (x5 + (5 : Int32)).toNatClampNeg (m2 0 16) (fun m4 => gd x5 345 (some (m4, (m4 1 x5.toNatClampNeg)))))))
set_option maxRecDepth 100000 in
set_option maxHeartbeats 4000000 in
theorem wX9_begin_b157 {p : Program} {l : Launch} {e : Env} {s : State} {m : MethodId} {args : Array Value} {below : List Frame} {meth : Method} {c : Code} {D : va_G} {ca : Nat → ClassId} {ad : Nat → Nat} {H : Heap} {locs : List Loc} {ls : Array Slot} {mem : Mm} {x5 : Int32} {s1 : Int32} {s2 : Int32}  {mem' : Mm} {r : Int32} (X : CallFix p m c cX9_begin 6 s args TT RX9) (M : Mt meth (some .int))   (w : Wd D ca ad layM (AA ad layM.length) s.heap s mem H locs) (hl : lv_has ls 6 [(0, .ref (ad 0)), (5, .int x5)]) (h : fX9_begin_b157  mem x5 s1 s2 = some (mem', r)) : W p l e (rmx 3 69) s m args below meth c H locs 0 0 (EndI D ca ad layM mem' r below args s) (F0 m 157 ls [.int s2, .int s1, .ref (ad 1)]) := by
  unfold fX9_begin_b157 at h
  obtain ⟨hi1, h⟩ := gd_some h
  refine r_iast X w lyM_1 hi1 dX9_begin_157 (fun H locs w => ?_)
  obtain ⟨m2, em2, h⟩ := wk_some h
  rw [em2] at w
  refine lv_aload_n X.1 X.2.1 dX9_begin_158 rfl (lv_at hl 0 rfl) ?_
  refine r_getr (b2 := 1) X w lyM_0 rfl inT9 1 rfl rfl (by decide) rfl tw_903 dX9_begin_159 ?_
  refine lv_iload X.1 X.2.1 dX9_begin_162 (lv_at hl 1 rfl) ?_
  refine lv_iconst (v := (5 : Int32)) X.1 X.2.1 dX9_begin_164 (by decide) ?_
  refine lv_iadd X.1 X.2.1 dX9_begin_165 ?_
  refine lv_aload_n X.1 X.2.1 dX9_begin_166 rfl (lv_at hl 0 rfl) ?_
  refine r_get X w lyM_0 rfl inT9 16 rfl (by decide) rfl tw_918 dX9_begin_167 ?_
  obtain ⟨hi3, h⟩ := gd_some h
  refine r_iast X w lyM_1 hi3 dX9_begin_170 (fun H locs w => ?_)
  obtain ⟨m4, em4, h⟩ := wk_some h
  rw [em4] at w
  refine lv_aload_n X.1 X.2.1 dX9_begin_171 rfl (lv_at hl 0 rfl) ?_
  refine r_getr (b2 := 1) X w lyM_0 rfl inT9 1 rfl rfl (by decide) rfl tw_903 dX9_begin_172 ?_
  refine lv_iload X.1 X.2.1 dX9_begin_175 (lv_at hl 1 rfl) ?_
  obtain ⟨hi5, h⟩ := gd_some h
  refine r_iald X w lyM_1 hi5 dX9_begin_177 ?_
  obtain ⟨rfl, rfl⟩ := Prod.mk.inj (Option.some.inj h)
  exact r_iret X M w dX9_begin_178
def fX9_begin_b81  (mem : Mm) (x1 : Int32) (x2 : Int32) (x5 : Int32) (s1 : Int32) (s2 : Int32) : Option (Mm × Int32) :=
  gd s1 345 (wk mem 1 s1.toNatClampNeg s2 (fun m2 => gd (x5 + (4 : Int32)) 345 (wk m2 1 (x5 + (4 : Int32)).toNatClampNeg (0 : Int32) (fun m4 => gd (344 : Int32) 345 (gd ((332 : Int32) + (m4 1 (344 : Int32).toNatClampNeg)) 345 (gd (x5 + (9 : Int32)) 345 (wk m4 1 (x5 + (9 : Int32)).toNatClampNeg (m4 1 ((332 : Int32) + (m4 1 (344 : Int32).toNatClampNeg)).toNatClampNeg) (fun m8 => gd (x5 + (9 : Int32)) 345 (bw (fX9_begins m8 (m8 1 (x5 + (9 : Int32)).toNatClampNeg) x2) (fun m11 r10 => bw (fX9_keeps m11 x1) (fun m13 r12 => if (m13 0 16) ≤ 0 then fX9_begin_b157 m13 x5 x5 (1 : Int32) else fX9_begin_b157 m13 x5 x5 (3 : Int32))))))))))))
set_option maxRecDepth 100000 in
set_option maxHeartbeats 4000000 in
theorem wX9_begin_b81 {p : Program} {l : Launch} {e : Env} {s : State} {m : MethodId} {args : Array Value} {below : List Frame} {meth : Method} {c : Code} {D : va_G} {ca : Nat → ClassId} {ad : Nat → Nat} {H : Heap} {locs : List Loc} {ls : Array Slot} {mem : Mm} {x1 : Int32} {x2 : Int32} {x5 : Int32} {s1 : Int32} {s2 : Int32}  {mem' : Mm} {r : Int32} (X : CallFix p m c cX9_begin 6 s args TT RX9) (M : Mt meth (some .int))   (w : Wd D ca ad layM (AA ad layM.length) s.heap s mem H locs) (hl : lv_has ls 6 [(0, .ref (ad 0)), (1, .int x1), (2, .int x2), (5, .int x5)]) (h : fX9_begin_b81  mem x1 x2 x5 s1 s2 = some (mem', r)) : W p l e (rmx 3 69) s m args below meth c H locs 0 0 (EndI D ca ad layM mem' r below args s) (F0 m 81 ls [.int s2, .int s1, .ref (ad 1)]) := by
  unfold fX9_begin_b81 at h
  obtain ⟨hi1, h⟩ := gd_some h
  refine r_iast X w lyM_1 hi1 dX9_begin_81 (fun H locs w => ?_)
  obtain ⟨m2, em2, h⟩ := wk_some h
  rw [em2] at w
  refine lv_aload_n X.1 X.2.1 dX9_begin_82 rfl (lv_at hl 0 rfl) ?_
  refine r_getr (b2 := 1) X w lyM_0 rfl inT9 1 rfl rfl (by decide) rfl tw_903 dX9_begin_83 ?_
  refine lv_iload X.1 X.2.1 dX9_begin_86 (lv_at hl 3 rfl) ?_
  refine lv_iconst (v := (4 : Int32)) X.1 X.2.1 dX9_begin_88 (by decide) ?_
  refine lv_iadd X.1 X.2.1 dX9_begin_89 ?_
  refine lv_iconst (v := (0 : Int32)) X.1 X.2.1 dX9_begin_90 (by decide) ?_
  obtain ⟨hi3, h⟩ := gd_some h
  refine r_iast X w lyM_1 hi3 dX9_begin_91 (fun H locs w => ?_)
  obtain ⟨m4, em4, h⟩ := wk_some h
  rw [em4] at w
  refine lv_aload_n X.1 X.2.1 dX9_begin_92 rfl (lv_at hl 0 rfl) ?_
  refine r_getr (b2 := 1) X w lyM_0 rfl inT9 1 rfl rfl (by decide) rfl tw_903 dX9_begin_93 ?_
  refine lv_iload X.1 X.2.1 dX9_begin_96 (lv_at hl 3 rfl) ?_
  refine lv_bipush (v := (9 : Int32)) X.1 X.2.1 dX9_begin_98 (by decide) ?_
  refine lv_iadd X.1 X.2.1 dX9_begin_100 ?_
  refine lv_aload_n X.1 X.2.1 dX9_begin_101 rfl (lv_at hl 0 rfl) ?_
  refine r_getr (b2 := 1) X w lyM_0 rfl inT9 1 rfl rfl (by decide) rfl tw_903 dX9_begin_102 ?_
  refine lv_sipush (v := (332 : Int32)) X.1 X.2.1 dX9_begin_105 (by decide) ?_
  refine lv_aload_n X.1 X.2.1 dX9_begin_108 rfl (lv_at hl 0 rfl) ?_
  refine r_getr (b2 := 1) X w lyM_0 rfl inT9 1 rfl rfl (by decide) rfl tw_903 dX9_begin_109 ?_
  refine lv_sipush (v := (344 : Int32)) X.1 X.2.1 dX9_begin_112 (by decide) ?_
  obtain ⟨hi5, h⟩ := gd_some h
  refine r_iald X w lyM_1 hi5 dX9_begin_115 ?_
  refine lv_iadd X.1 X.2.1 dX9_begin_116 ?_
  obtain ⟨hi6, h⟩ := gd_some h
  refine r_iald X w lyM_1 hi6 dX9_begin_117 ?_
  obtain ⟨hi7, h⟩ := gd_some h
  refine r_iast X w lyM_1 hi7 dX9_begin_118 (fun H locs w => ?_)
  obtain ⟨m8, em8, h⟩ := wk_some h
  rw [em8] at w
  refine lv_aload_n X.1 X.2.1 dX9_begin_119 rfl (lv_at hl 0 rfl) ?_
  refine lv_aload_n X.1 X.2.1 dX9_begin_120 rfl (lv_at hl 0 rfl) ?_
  refine r_getr (b2 := 1) X w lyM_0 rfl inT9 1 rfl rfl (by decide) rfl tw_903 dX9_begin_121 ?_
  refine lv_iload X.1 X.2.1 dX9_begin_124 (lv_at hl 3 rfl) ?_
  refine lv_bipush (v := (9 : Int32)) X.1 X.2.1 dX9_begin_126 (by decide) ?_
  refine lv_iadd X.1 X.2.1 dX9_begin_128 ?_
  obtain ⟨hi9, h⟩ := gd_some h
  refine r_iald X w lyM_1 hi9 dX9_begin_129 ?_
  refine lv_iload_n X.1 X.2.1 dX9_begin_130 rfl (lv_at hl 2 rfl) ?_
  obtain ⟨m11, r10, hr10, h⟩ := bw_some h
  refine r_cVv (As := [.int (m8 1 (x5 + (9 : Int32)).toNatClampNeg), .int x2]) (rest := []) X w lyM_0 rfl (kX9_begins  l D ca ad m8 (m8 1 (x5 + (9 : Int32)).toNatClampNeg) x2  hr10) (gTV tw_1073 tw_1075 tw_41 tw_75 tw_1076) hdX9_begins (by decide) rfl hl.1 rfl (Nat.le_of_ble_eq_true rfl) dX9_begin_131 ⟨Nat.zero_le _, Nat.zero_le _⟩ (fun H locs w => ?_)
  refine lv_aload_n X.1 X.2.1 dX9_begin_134 rfl (lv_at hl 0 rfl) ?_
  refine lv_iload_n X.1 X.2.1 dX9_begin_135 rfl (lv_at hl 1 rfl) ?_
  obtain ⟨m13, r12, hr12, h⟩ := bw_some h
  refine r_cVv (As := [.int x1]) (rest := []) X w lyM_0 rfl (kX9_keeps  l D ca ad m11 x1  hr12) (gTV tw_1114 tw_1116 tw_46 tw_75 tw_1117) hdX9_keeps (by decide) rfl hl.1 rfl (Nat.le_of_ble_eq_true rfl) dX9_begin_136 ⟨Nat.zero_le _, Nat.zero_le _⟩ (fun H locs w => ?_)
  refine lv_aload_n X.1 X.2.1 dX9_begin_139 rfl (lv_at hl 0 rfl) ?_
  refine r_getr (b2 := 1) X w lyM_0 rfl inT9 1 rfl rfl (by decide) rfl tw_903 dX9_begin_140 ?_
  refine lv_iload X.1 X.2.1 dX9_begin_143 (lv_at hl 3 rfl) ?_
  refine lv_aload_n X.1 X.2.1 dX9_begin_145 rfl (lv_at hl 0 rfl) ?_
  refine r_get X w lyM_0 rfl inT9 16 rfl (by decide) rfl tw_918 dX9_begin_146 ?_
  refine lv_if_le (tgt := 156) X.1 X.2.1 dX9_begin_149 (by decide) (fun c14 => ?_) (fun c14 => ?_)
  · rw [if_pos c14] at h
    refine lv_iconst (v := (1 : Int32)) X.1 X.2.1 dX9_begin_156 (by decide) ?_
    exact wX9_begin_b157 X M w (lv_sub hl [0, 3] rfl) h
  · rw [if_neg c14] at h
    refine lv_iconst (v := (3 : Int32)) X.1 X.2.1 dX9_begin_152 (by decide) ?_
    refine lv_goto (tgt := 157) X.1 X.2.1 dX9_begin_153 (by decide) ?_
    exact wX9_begin_b157 X M w (lv_sub hl [0, 3] rfl) h
def fX9_begin (mem : Mm) (a1 : Int32) (a2 : Int32) (a3 : Int32) (a4 : Int32) : Option (Mm × Int32) :=
  wk mem 0 0 (0 : Int32) (fun m1 => if (fX9_within a1 (0 : Int32) (3 : Int32)) = 0 then some (m1, (-1 : Int32)) else bd (fX9_canAsk m1 a2 a3) (fun r3 => if r3 = 0 then some (m1, (-1 : Int32)) else bd (fX9_isGoing m1 a1) (fun r5 => if r5 = 0 then lk ((276 : Int32) + ((11 : Int32) * a1)) (fun x_7 => gd (x_7 + (1 : Int32)) 345 (wk m1 1 (x_7 + (1 : Int32)).toNatClampNeg a2 (fun m9 => gd (x_7 + (2 : Int32)) 345 (wk m9 1 (x_7 + (2 : Int32)).toNatClampNeg a3 (fun m11 => if a4 = 0 then fX9_begin_b81 m11 a1 a2 x_7 (x_7 + (3 : Int32)) (0 : Int32) else fX9_begin_b81 m11 a1 a2 x_7 (x_7 + (3 : Int32)) (1 : Int32)))))) else some (m1, (-1 : Int32)))))
set_option maxRecDepth 100000 in
set_option maxHeartbeats 4000000 in
theorem kX9_begin (l : Launch) (D : va_G) (ca : Nat → ClassId) (ad : Nat → Nat) (mem : Mm) (a1 : Int32) (a2 : Int32) (a3 : Int32) (a4 : Int32)  {mem' : Mm} {r : Int32} (h : fX9_begin mem a1 a2 a3 a4 = some (mem', r)) : CtI l yX9_begin cX9_begin 6 (some .int) (rmx 3 69) D ca ad layM mem [.ref (ad 0), .int a1, .int a2, .int a3, .int a4] mem' r := by
  refine CtI.of (by decide) (Nat.le_of_ble_eq_true rfl) ?_
  intro p e s m args below meth c H locs ls X M w hl
  replace X : CallFix p m c cX9_begin 6 s args TT RX9 := X
  replace hl : lv_has ls 6 [(0, .ref (ad 0)), (1, .int a1), (2, .int a2), (3, .int a3), (4, .int a4)] := hl
  unfold fX9_begin at h
  refine lv_aload_n X.1 X.2.1 dX9_begin_0 rfl (lv_at hl 0 rfl) ?_
  refine lv_iconst (v := (0 : Int32)) X.1 X.2.1 dX9_begin_1 (by decide) ?_
  refine r_put X w lyM_0 rfl inT9 tyX9 tyX9_ok nmX9 0 rfl (by decide) rfl rfl tw_902 rfl rfl dX9_begin_2 (fun H locs w => ?_)
  obtain ⟨m1, em1, h⟩ := wk_some h
  rw [em1] at w
  refine lv_iload_n X.1 X.2.1 dX9_begin_5 rfl (lv_at hl 1 rfl) ?_
  refine lv_iconst (v := (0 : Int32)) X.1 X.2.1 dX9_begin_6 (by decide) ?_
  refine lv_iconst (v := (3 : Int32)) X.1 X.2.1 dX9_begin_7 (by decide) ?_
  refine r_cSi (As := [.int a1, .int (0 : Int32), .int (3 : Int32)]) (rest := []) X w (kX9_within  l D ca ad m1 a1 (0 : Int32) (3 : Int32)  rfl) (gTS tw_983 tw_984 tw_75 tw_985) hdX9_within (by decide) rfl hl.1 rfl (Nat.le_of_ble_eq_true rfl) dX9_begin_8 ⟨Nat.zero_le _, Nat.zero_le _⟩ (fun H locs w => ?_)
  refine lv_if_eq (tgt := 31) X.1 X.2.1 dX9_begin_11 (by decide) (fun c2 => ?_) (fun c2 => ?_)
  · rw [if_pos c2] at h
    refine lv_iconst (v := (-1 : Int32)) X.1 X.2.1 dX9_begin_31 (by decide) ?_
    obtain ⟨rfl, rfl⟩ := Prod.mk.inj (Option.some.inj h)
    exact r_iret X M w dX9_begin_32
  · rw [if_neg c2] at h
    refine lv_aload_n X.1 X.2.1 dX9_begin_14 rfl (lv_at hl 0 rfl) ?_
    refine lv_iload_n X.1 X.2.1 dX9_begin_15 rfl (lv_at hl 2 rfl) ?_
    refine lv_iload_n X.1 X.2.1 dX9_begin_16 rfl (lv_at hl 3 rfl) ?_
    obtain ⟨r3, hr3, h⟩ := bd_some h
    refine r_cVi (As := [.int a2, .int a3]) (rest := []) X w lyM_0 rfl (kX9_canAsk  l D ca ad m1 a2 a3  hr3) (gTV tw_1039 tw_1041 tw_34 tw_75 tw_1042) hdX9_canAsk (by decide) rfl hl.1 rfl (Nat.le_of_ble_eq_true rfl) dX9_begin_17 ⟨Nat.zero_le _, Nat.zero_le _⟩ (fun H locs w => ?_)
    refine lv_if_eq (tgt := 31) X.1 X.2.1 dX9_begin_20 (by decide) (fun c4 => ?_) (fun c4 => ?_)
    · rw [if_pos c4] at h
      refine lv_iconst (v := (-1 : Int32)) X.1 X.2.1 dX9_begin_31 (by decide) ?_
      obtain ⟨rfl, rfl⟩ := Prod.mk.inj (Option.some.inj h)
      exact r_iret X M w dX9_begin_32
    · rw [if_neg c4] at h
      refine lv_aload_n X.1 X.2.1 dX9_begin_23 rfl (lv_at hl 0 rfl) ?_
      refine lv_iload_n X.1 X.2.1 dX9_begin_24 rfl (lv_at hl 1 rfl) ?_
      obtain ⟨r5, hr5, h⟩ := bd_some h
      refine r_cVi (As := [.int a1]) (rest := []) X w lyM_0 rfl (kX9_isGoing  l D ca ad m1 a1  hr5) (gTV tw_1023 tw_1025 tw_31 tw_75 tw_1026) hdX9_isGoing (by decide) rfl hl.1 rfl (Nat.le_of_ble_eq_true rfl) dX9_begin_25 ⟨Nat.zero_le _, Nat.zero_le _⟩ (fun H locs w => ?_)
      refine lv_if_eq (tgt := 33) X.1 X.2.1 dX9_begin_28 (by decide) (fun c6 => ?_) (fun c6 => ?_)
      · rw [if_pos c6] at h
        refine lv_sipush (v := (276 : Int32)) X.1 X.2.1 dX9_begin_33 (by decide) ?_
        refine lv_bipush (v := (11 : Int32)) X.1 X.2.1 dX9_begin_36 (by decide) ?_
        refine lv_iload_n X.1 X.2.1 dX9_begin_38 rfl (lv_at hl 1 rfl) ?_
        refine lv_imul X.1 X.2.1 dX9_begin_39 ?_
        refine lv_iadd X.1 X.2.1 dX9_begin_40 ?_
        obtain ⟨x_7, ex_7, h⟩ := lk_some h
        refine lv_name ex_7 ?_
        refine lv_istore (lv' := [(5, .int x_7), (0, .ref (ad 0)), (1, .int a1), (2, .int a2), (3, .int a3), (4, .int a4)]) X.1 X.2.1 dX9_begin_41 hl (by decide) rfl (fun ls hl => ?_)
        refine lv_aload_n X.1 X.2.1 dX9_begin_43 rfl (lv_at hl 1 rfl) ?_
        refine r_getr (b2 := 1) X w lyM_0 rfl inT9 1 rfl rfl (by decide) rfl tw_903 dX9_begin_44 ?_
        refine lv_iload X.1 X.2.1 dX9_begin_47 (lv_at hl 0 rfl) ?_
        refine lv_iconst (v := (1 : Int32)) X.1 X.2.1 dX9_begin_49 (by decide) ?_
        refine lv_iadd X.1 X.2.1 dX9_begin_50 ?_
        refine lv_iload_n X.1 X.2.1 dX9_begin_51 rfl (lv_at hl 3 rfl) ?_
        obtain ⟨hi8, h⟩ := gd_some h
        refine r_iast X w lyM_1 hi8 dX9_begin_52 (fun H locs w => ?_)
        obtain ⟨m9, em9, h⟩ := wk_some h
        rw [em9] at w
        refine lv_aload_n X.1 X.2.1 dX9_begin_53 rfl (lv_at hl 1 rfl) ?_
        refine r_getr (b2 := 1) X w lyM_0 rfl inT9 1 rfl rfl (by decide) rfl tw_903 dX9_begin_54 ?_
        refine lv_iload X.1 X.2.1 dX9_begin_57 (lv_at hl 0 rfl) ?_
        refine lv_iconst (v := (2 : Int32)) X.1 X.2.1 dX9_begin_59 (by decide) ?_
        refine lv_iadd X.1 X.2.1 dX9_begin_60 ?_
        refine lv_iload_n X.1 X.2.1 dX9_begin_61 rfl (lv_at hl 4 rfl) ?_
        obtain ⟨hi10, h⟩ := gd_some h
        refine r_iast X w lyM_1 hi10 dX9_begin_62 (fun H locs w => ?_)
        obtain ⟨m11, em11, h⟩ := wk_some h
        rw [em11] at w
        refine lv_aload_n X.1 X.2.1 dX9_begin_63 rfl (lv_at hl 1 rfl) ?_
        refine r_getr (b2 := 1) X w lyM_0 rfl inT9 1 rfl rfl (by decide) rfl tw_903 dX9_begin_64 ?_
        refine lv_iload X.1 X.2.1 dX9_begin_67 (lv_at hl 0 rfl) ?_
        refine lv_iconst (v := (3 : Int32)) X.1 X.2.1 dX9_begin_69 (by decide) ?_
        refine lv_iadd X.1 X.2.1 dX9_begin_70 ?_
        refine lv_iload X.1 X.2.1 dX9_begin_71 (lv_at hl 5 rfl) ?_
        refine lv_if_eq (tgt := 80) X.1 X.2.1 dX9_begin_73 (by decide) (fun c12 => ?_) (fun c12 => ?_)
        · rw [if_pos c12] at h
          refine lv_iconst (v := (0 : Int32)) X.1 X.2.1 dX9_begin_80 (by decide) ?_
          exact wX9_begin_b81 X M w (lv_sub hl [1, 2, 3, 0] rfl) h
        · rw [if_neg c12] at h
          refine lv_iconst (v := (1 : Int32)) X.1 X.2.1 dX9_begin_76 (by decide) ?_
          refine lv_goto (tgt := 81) X.1 X.2.1 dX9_begin_77 (by decide) ?_
          exact wX9_begin_b81 X M w (lv_sub hl [1, 2, 3, 0] rfl) h
      · rw [if_neg c6] at h
        refine lv_iconst (v := (-1 : Int32)) X.1 X.2.1 dX9_begin_31 (by decide) ?_
        obtain ⟨rfl, rfl⟩ := Prod.mk.inj (Option.some.inj h)
        exact r_iret X M w dX9_begin_32
/-! WalkHouseModel.turn(I)I (W) -/
theorem hdX9_turn : yX9_turn.cls = RX9 ∧ yX9_turn.cls ≠ "java/lang/invoke/MethodHandle" ∧ yX9_turn.cls ≠ "java/lang/invoke/VarHandle" ∧ (parseMethodDescriptor yX9_turn.desc).map (fun d => d.parameters.length) = some 1 := by decide +kernel
def fX9_turn_b189  (mem : Mm) (x2 : Int32) (s1 : Int32) (s2 : Int32) : Option (Mm × Int32) :=
  gd s1 345 (wk mem 1 s1.toNatClampNeg s2 (fun m2 => if (m2 0 16) ≤ 0 then gd (x2 + (5 : Int32)) 345 (wk m2 1 (x2 + (5 : Int32)).toNatClampNeg (m2 0 15) (fun m5 => gd x2 345 (some (m5, (m5 1 x2.toNatClampNeg))))) else gd (x2 + (5 : Int32)) 345 (wk m2 1 (x2 + (5 : Int32)).toNatClampNeg (m2 0 16) (fun m8 => gd x2 345 (some (m8, (m8 1 x2.toNatClampNeg)))))))
set_option maxRecDepth 100000 in
set_option maxHeartbeats 4000000 in
theorem wX9_turn_b189 {p : Program} {l : Launch} {e : Env} {s : State} {m : MethodId} {args : Array Value} {below : List Frame} {meth : Method} {c : Code} {D : va_G} {ca : Nat → ClassId} {ad : Nat → Nat} {H : Heap} {locs : List Loc} {ls : Array Slot} {mem : Mm} {x2 : Int32} {s1 : Int32} {s2 : Int32}  {mem' : Mm} {r : Int32} (X : CallFix p m c cX9_turn 4 s args TT RX9) (M : Mt meth (some .int))   (w : Wd D ca ad layM (AA ad layM.length) s.heap s mem H locs) (hl : lv_has ls 4 [(0, .ref (ad 0)), (2, .int x2)]) (h : fX9_turn_b189  mem x2 s1 s2 = some (mem', r)) : W p l e (rmx 4 106) s m args below meth c H locs 0 0 (EndI D ca ad layM mem' r below args s) (F0 m 189 ls [.int s2, .int s1, .ref (ad 1)]) := by
  unfold fX9_turn_b189 at h
  obtain ⟨hi1, h⟩ := gd_some h
  refine r_iast X w lyM_1 hi1 dX9_turn_189 (fun H locs w => ?_)
  obtain ⟨m2, em2, h⟩ := wk_some h
  rw [em2] at w
  refine lv_aload_n X.1 X.2.1 dX9_turn_190 rfl (lv_at hl 0 rfl) ?_
  refine r_getr (b2 := 1) X w lyM_0 rfl inT9 1 rfl rfl (by decide) rfl tw_903 dX9_turn_191 ?_
  refine lv_iload_n X.1 X.2.1 dX9_turn_194 rfl (lv_at hl 1 rfl) ?_
  refine lv_iconst (v := (5 : Int32)) X.1 X.2.1 dX9_turn_195 (by decide) ?_
  refine lv_iadd X.1 X.2.1 dX9_turn_196 ?_
  refine lv_aload_n X.1 X.2.1 dX9_turn_197 rfl (lv_at hl 0 rfl) ?_
  refine r_get X w lyM_0 rfl inT9 16 rfl (by decide) rfl tw_918 dX9_turn_198 ?_
  refine lv_if_le (tgt := 211) X.1 X.2.1 dX9_turn_201 (by decide) (fun c3 => ?_) (fun c3 => ?_)
  · rw [if_pos c3] at h
    refine lv_aload_n X.1 X.2.1 dX9_turn_211 rfl (lv_at hl 0 rfl) ?_
    refine r_get X w lyM_0 rfl inT9 15 rfl (by decide) rfl tw_917 dX9_turn_212 ?_
    obtain ⟨hi4, h⟩ := gd_some h
    refine r_iast X w lyM_1 hi4 dX9_turn_215 (fun H locs w => ?_)
    obtain ⟨m5, em5, h⟩ := wk_some h
    rw [em5] at w
    refine lv_aload_n X.1 X.2.1 dX9_turn_216 rfl (lv_at hl 0 rfl) ?_
    refine r_getr (b2 := 1) X w lyM_0 rfl inT9 1 rfl rfl (by decide) rfl tw_903 dX9_turn_217 ?_
    refine lv_iload_n X.1 X.2.1 dX9_turn_220 rfl (lv_at hl 1 rfl) ?_
    obtain ⟨hi6, h⟩ := gd_some h
    refine r_iald X w lyM_1 hi6 dX9_turn_221 ?_
    obtain ⟨rfl, rfl⟩ := Prod.mk.inj (Option.some.inj h)
    exact r_iret X M w dX9_turn_222
  · rw [if_neg c3] at h
    refine lv_aload_n X.1 X.2.1 dX9_turn_204 rfl (lv_at hl 0 rfl) ?_
    refine r_get X w lyM_0 rfl inT9 16 rfl (by decide) rfl tw_918 dX9_turn_205 ?_
    refine lv_goto (tgt := 215) X.1 X.2.1 dX9_turn_208 (by decide) ?_
    obtain ⟨hi7, h⟩ := gd_some h
    refine r_iast X w lyM_1 hi7 dX9_turn_215 (fun H locs w => ?_)
    obtain ⟨m8, em8, h⟩ := wk_some h
    rw [em8] at w
    refine lv_aload_n X.1 X.2.1 dX9_turn_216 rfl (lv_at hl 0 rfl) ?_
    refine r_getr (b2 := 1) X w lyM_0 rfl inT9 1 rfl rfl (by decide) rfl tw_903 dX9_turn_217 ?_
    refine lv_iload_n X.1 X.2.1 dX9_turn_220 rfl (lv_at hl 1 rfl) ?_
    obtain ⟨hi9, h⟩ := gd_some h
    refine r_iald X w lyM_1 hi9 dX9_turn_221 ?_
    obtain ⟨rfl, rfl⟩ := Prod.mk.inj (Option.some.inj h)
    exact r_iret X M w dX9_turn_222
def fX9_turn_b125  (mem : Mm) (x1 : Int32) (x2 : Int32) (s1 : Int32) (s2 : Int32) (s3 : Int32) (s4 : Int32) : Option (Mm × Int32) :=
  bw (fX9_reads mem s1 s2 s3 s4) (fun m2 r1 => bw (fX9_keeps m2 x1) (fun m4 r3 => gd (x2 + (4 : Int32)) 345 (gd (x2 + (4 : Int32)) 345 (wk m4 1 (x2 + (4 : Int32)).toNatClampNeg ((m4 1 (x2 + (4 : Int32)).toNatClampNeg) + (m4 0 14)) (fun m7 => gd (323 : Int32) 345 (gd (323 : Int32) 345 (wk m7 1 (323 : Int32).toNatClampNeg ((m7 1 (323 : Int32).toNatClampNeg) + (m7 0 14)) (fun m10 => if r1 = 0 then if (m10 0 16) ≤ 0 then fX9_turn_b189 m10 x2 x2 (2 : Int32) else fX9_turn_b189 m10 x2 x2 (3 : Int32) else fX9_turn_b189 m10 x2 x2 (1 : Int32)))))))))
set_option maxRecDepth 100000 in
set_option maxHeartbeats 4000000 in
theorem wX9_turn_b125 {p : Program} {l : Launch} {e : Env} {s : State} {m : MethodId} {args : Array Value} {below : List Frame} {meth : Method} {c : Code} {D : va_G} {ca : Nat → ClassId} {ad : Nat → Nat} {H : Heap} {locs : List Loc} {ls : Array Slot} {mem : Mm} {x1 : Int32} {x2 : Int32} {s1 : Int32} {s2 : Int32} {s3 : Int32} {s4 : Int32}  {mem' : Mm} {r : Int32} (X : CallFix p m c cX9_turn 4 s args TT RX9) (M : Mt meth (some .int))   (w : Wd D ca ad layM (AA ad layM.length) s.heap s mem H locs) (hl : lv_has ls 4 [(0, .ref (ad 0)), (1, .int x1), (2, .int x2)]) (h : fX9_turn_b125  mem x1 x2 s1 s2 s3 s4 = some (mem', r)) : W p l e (rmx 4 106) s m args below meth c H locs 0 0 (EndI D ca ad layM mem' r below args s) (F0 m 125 ls [.int s4, .int s3, .int s2, .int s1, .ref (ad 0)]) := by
  unfold fX9_turn_b125 at h
  obtain ⟨m2, r1, hr1, h⟩ := bw_some h
  refine r_cVi (As := [.int s1, .int s2, .int s3, .int s4]) (rest := []) X w lyM_0 rfl (kX9_reads  l D ca ad mem s1 s2 s3 s4  hr1) (gTV tw_1077 tw_1079 tw_42 tw_75 tw_1080) hdX9_reads (by decide) rfl hl.1 rfl (Nat.le_of_ble_eq_true rfl) dX9_turn_125 ⟨Nat.zero_le _, Nat.zero_le _⟩ (fun H locs w => ?_)
  refine lv_istore_n (lv' := [(3, .int r1), (0, .ref (ad 0)), (1, .int x1), (2, .int x2)]) X.1 X.2.1 dX9_turn_128 rfl hl (by decide) rfl (fun ls hl => ?_)
  refine lv_aload_n X.1 X.2.1 dX9_turn_129 rfl (lv_at hl 1 rfl) ?_
  refine lv_iload_n X.1 X.2.1 dX9_turn_130 rfl (lv_at hl 2 rfl) ?_
  obtain ⟨m4, r3, hr3, h⟩ := bw_some h
  refine r_cVv (As := [.int x1]) (rest := []) X w lyM_0 rfl (kX9_keeps  l D ca ad m2 x1  hr3) (gTV tw_1114 tw_1116 tw_46 tw_75 tw_1117) hdX9_keeps (by decide) rfl hl.1 rfl (Nat.le_of_ble_eq_true rfl) dX9_turn_131 ⟨Nat.zero_le _, Nat.zero_le _⟩ (fun H locs w => ?_)
  refine lv_aload_n X.1 X.2.1 dX9_turn_134 rfl (lv_at hl 1 rfl) ?_
  refine r_getr (b2 := 1) X w lyM_0 rfl inT9 1 rfl rfl (by decide) rfl tw_903 dX9_turn_135 ?_
  refine lv_iload_n X.1 X.2.1 dX9_turn_138 rfl (lv_at hl 3 rfl) ?_
  refine lv_iconst (v := (4 : Int32)) X.1 X.2.1 dX9_turn_139 (by decide) ?_
  refine lv_iadd X.1 X.2.1 dX9_turn_140 ?_
  refine lv_dup2_11 X.1 X.2.1 dX9_turn_141 rfl rfl ?_
  obtain ⟨hi5, h⟩ := gd_some h
  refine r_iald X w lyM_1 hi5 dX9_turn_142 ?_
  refine lv_aload_n X.1 X.2.1 dX9_turn_143 rfl (lv_at hl 1 rfl) ?_
  refine r_get X w lyM_0 rfl inT9 14 rfl (by decide) rfl tw_916 dX9_turn_144 ?_
  refine lv_iadd X.1 X.2.1 dX9_turn_147 ?_
  obtain ⟨hi6, h⟩ := gd_some h
  refine r_iast X w lyM_1 hi6 dX9_turn_148 (fun H locs w => ?_)
  obtain ⟨m7, em7, h⟩ := wk_some h
  rw [em7] at w
  refine lv_aload_n X.1 X.2.1 dX9_turn_149 rfl (lv_at hl 1 rfl) ?_
  refine r_getr (b2 := 1) X w lyM_0 rfl inT9 1 rfl rfl (by decide) rfl tw_903 dX9_turn_150 ?_
  refine lv_sipush (v := (323 : Int32)) X.1 X.2.1 dX9_turn_153 (by decide) ?_
  refine lv_dup2_11 X.1 X.2.1 dX9_turn_156 rfl rfl ?_
  obtain ⟨hi8, h⟩ := gd_some h
  refine r_iald X w lyM_1 hi8 dX9_turn_157 ?_
  refine lv_aload_n X.1 X.2.1 dX9_turn_158 rfl (lv_at hl 1 rfl) ?_
  refine r_get X w lyM_0 rfl inT9 14 rfl (by decide) rfl tw_916 dX9_turn_159 ?_
  refine lv_iadd X.1 X.2.1 dX9_turn_162 ?_
  obtain ⟨hi9, h⟩ := gd_some h
  refine r_iast X w lyM_1 hi9 dX9_turn_163 (fun H locs w => ?_)
  obtain ⟨m10, em10, h⟩ := wk_some h
  rw [em10] at w
  refine lv_aload_n X.1 X.2.1 dX9_turn_164 rfl (lv_at hl 1 rfl) ?_
  refine r_getr (b2 := 1) X w lyM_0 rfl inT9 1 rfl rfl (by decide) rfl tw_903 dX9_turn_165 ?_
  refine lv_iload_n X.1 X.2.1 dX9_turn_168 rfl (lv_at hl 3 rfl) ?_
  refine lv_iload_n X.1 X.2.1 dX9_turn_169 rfl (lv_at hl 0 rfl) ?_
  refine lv_if_eq (tgt := 177) X.1 X.2.1 dX9_turn_170 (by decide) (fun c11 => ?_) (fun c11 => ?_)
  · rw [if_pos c11] at h
    refine lv_aload_n X.1 X.2.1 dX9_turn_177 rfl (lv_at hl 1 rfl) ?_
    refine r_get X w lyM_0 rfl inT9 16 rfl (by decide) rfl tw_918 dX9_turn_178 ?_
    refine lv_if_le (tgt := 188) X.1 X.2.1 dX9_turn_181 (by decide) (fun c12 => ?_) (fun c12 => ?_)
    · rw [if_pos c12] at h
      refine lv_iconst (v := (2 : Int32)) X.1 X.2.1 dX9_turn_188 (by decide) ?_
      exact wX9_turn_b189 X M w (lv_sub hl [1, 3] rfl) h
    · rw [if_neg c12] at h
      refine lv_iconst (v := (3 : Int32)) X.1 X.2.1 dX9_turn_184 (by decide) ?_
      refine lv_goto (tgt := 189) X.1 X.2.1 dX9_turn_185 (by decide) ?_
      exact wX9_turn_b189 X M w (lv_sub hl [1, 3] rfl) h
  · rw [if_neg c11] at h
    refine lv_iconst (v := (1 : Int32)) X.1 X.2.1 dX9_turn_173 (by decide) ?_
    refine lv_goto (tgt := 189) X.1 X.2.1 dX9_turn_174 (by decide) ?_
    exact wX9_turn_b189 X M w (lv_sub hl [1, 3] rfl) h
def fX9_turn (mem : Mm) (a1 : Int32) : Option (Mm × Int32) :=
  wk mem 0 0 (0 : Int32) (fun m1 => if (fX9_within a1 (0 : Int32) (3 : Int32)) = 0 then some (m1, (-1 : Int32)) else bd (fX9_isGoing m1 a1) (fun r3 => if r3 = 0 then some (m1, (-1 : Int32)) else lk ((276 : Int32) + ((11 : Int32) * a1)) (fun x_5 => gd (x_5 + (6 : Int32)) 345 (wk m1 0 11 (m1 1 (x_5 + (6 : Int32)).toNatClampNeg) (fun m7 => gd (x_5 + (7 : Int32)) 345 (wk m7 0 12 (m7 1 (x_5 + (7 : Int32)).toNatClampNeg) (fun m9 => gd (x_5 + (8 : Int32)) 345 (wk m9 0 13 (m9 1 (x_5 + (8 : Int32)).toNatClampNeg) (fun m11 => wk m11 0 14 (0 : Int32) (fun m12 => wk m12 0 16 (0 : Int32) (fun m13 => gd (x_5 + (9 : Int32)) 345 (gd (x_5 + (1 : Int32)) 345 (gd (x_5 + (2 : Int32)) 345 (gd (x_5 + (3 : Int32)) 345 (if (m13 1 (x_5 + (3 : Int32)).toNatClampNeg) = (1 : Int32) then fX9_turn_b125 m13 a1 x_5 (m13 1 (x_5 + (9 : Int32)).toNatClampNeg) (m13 1 (x_5 + (1 : Int32)).toNatClampNeg) (m13 1 (x_5 + (2 : Int32)).toNatClampNeg) (1 : Int32) else fX9_turn_b125 m13 a1 x_5 (m13 1 (x_5 + (9 : Int32)).toNatClampNeg) (m13 1 (x_5 + (1 : Int32)).toNatClampNeg) (m13 1 (x_5 + (2 : Int32)).toNatClampNeg) (0 : Int32))))))))))))))))
set_option maxRecDepth 100000 in
set_option maxHeartbeats 4000000 in
theorem kX9_turn (l : Launch) (D : va_G) (ca : Nat → ClassId) (ad : Nat → Nat) (mem : Mm) (a1 : Int32)  {mem' : Mm} {r : Int32} (h : fX9_turn mem a1 = some (mem', r)) : CtI l yX9_turn cX9_turn 4 (some .int) (rmx 4 106) D ca ad layM mem [.ref (ad 0), .int a1] mem' r := by
  refine CtI.of (by decide) (Nat.le_of_ble_eq_true rfl) ?_
  intro p e s m args below meth c H locs ls X M w hl
  replace X : CallFix p m c cX9_turn 4 s args TT RX9 := X
  replace hl : lv_has ls 4 [(0, .ref (ad 0)), (1, .int a1)] := hl
  unfold fX9_turn at h
  refine lv_aload_n X.1 X.2.1 dX9_turn_0 rfl (lv_at hl 0 rfl) ?_
  refine lv_iconst (v := (0 : Int32)) X.1 X.2.1 dX9_turn_1 (by decide) ?_
  refine r_put X w lyM_0 rfl inT9 tyX9 tyX9_ok nmX9 0 rfl (by decide) rfl rfl tw_902 rfl rfl dX9_turn_2 (fun H locs w => ?_)
  obtain ⟨m1, em1, h⟩ := wk_some h
  rw [em1] at w
  refine lv_iload_n X.1 X.2.1 dX9_turn_5 rfl (lv_at hl 1 rfl) ?_
  refine lv_iconst (v := (0 : Int32)) X.1 X.2.1 dX9_turn_6 (by decide) ?_
  refine lv_iconst (v := (3 : Int32)) X.1 X.2.1 dX9_turn_7 (by decide) ?_
  refine r_cSi (As := [.int a1, .int (0 : Int32), .int (3 : Int32)]) (rest := []) X w (kX9_within  l D ca ad m1 a1 (0 : Int32) (3 : Int32)  rfl) (gTS tw_983 tw_984 tw_75 tw_985) hdX9_within (by decide) rfl hl.1 rfl (Nat.le_of_ble_eq_true rfl) dX9_turn_8 ⟨Nat.zero_le _, Nat.zero_le _⟩ (fun H locs w => ?_)
  refine lv_if_eq (tgt := 22) X.1 X.2.1 dX9_turn_11 (by decide) (fun c2 => ?_) (fun c2 => ?_)
  · rw [if_pos c2] at h
    refine lv_iconst (v := (-1 : Int32)) X.1 X.2.1 dX9_turn_22 (by decide) ?_
    obtain ⟨rfl, rfl⟩ := Prod.mk.inj (Option.some.inj h)
    exact r_iret X M w dX9_turn_23
  · rw [if_neg c2] at h
    refine lv_aload_n X.1 X.2.1 dX9_turn_14 rfl (lv_at hl 0 rfl) ?_
    refine lv_iload_n X.1 X.2.1 dX9_turn_15 rfl (lv_at hl 1 rfl) ?_
    obtain ⟨r3, hr3, h⟩ := bd_some h
    refine r_cVi (As := [.int a1]) (rest := []) X w lyM_0 rfl (kX9_isGoing  l D ca ad m1 a1  hr3) (gTV tw_1023 tw_1025 tw_31 tw_75 tw_1026) hdX9_isGoing (by decide) rfl hl.1 rfl (Nat.le_of_ble_eq_true rfl) dX9_turn_16 ⟨Nat.zero_le _, Nat.zero_le _⟩ (fun H locs w => ?_)
    refine lv_if_ne (tgt := 24) X.1 X.2.1 dX9_turn_19 (by decide) (fun c4 => ?_) (fun c4 => ?_)
    · rw [if_neg c4] at h
      refine lv_sipush (v := (276 : Int32)) X.1 X.2.1 dX9_turn_24 (by decide) ?_
      refine lv_bipush (v := (11 : Int32)) X.1 X.2.1 dX9_turn_27 (by decide) ?_
      refine lv_iload_n X.1 X.2.1 dX9_turn_29 rfl (lv_at hl 1 rfl) ?_
      refine lv_imul X.1 X.2.1 dX9_turn_30 ?_
      refine lv_iadd X.1 X.2.1 dX9_turn_31 ?_
      obtain ⟨x_5, ex_5, h⟩ := lk_some h
      refine lv_name ex_5 ?_
      refine lv_istore_n (lv' := [(2, .int x_5), (0, .ref (ad 0)), (1, .int a1)]) X.1 X.2.1 dX9_turn_32 rfl hl (by decide) rfl (fun ls hl => ?_)
      refine lv_aload_n X.1 X.2.1 dX9_turn_33 rfl (lv_at hl 1 rfl) ?_
      refine lv_aload_n X.1 X.2.1 dX9_turn_34 rfl (lv_at hl 1 rfl) ?_
      refine r_getr (b2 := 1) X w lyM_0 rfl inT9 1 rfl rfl (by decide) rfl tw_903 dX9_turn_35 ?_
      refine lv_iload_n X.1 X.2.1 dX9_turn_38 rfl (lv_at hl 0 rfl) ?_
      refine lv_bipush (v := (6 : Int32)) X.1 X.2.1 dX9_turn_39 (by decide) ?_
      refine lv_iadd X.1 X.2.1 dX9_turn_41 ?_
      obtain ⟨hi6, h⟩ := gd_some h
      refine r_iald X w lyM_1 hi6 dX9_turn_42 ?_
      refine r_put X w lyM_0 rfl inT9 tyX9 tyX9_ok nmX9 11 rfl (by decide) rfl rfl tw_913 rfl rfl dX9_turn_43 (fun H locs w => ?_)
      obtain ⟨m7, em7, h⟩ := wk_some h
      rw [em7] at w
      refine lv_aload_n X.1 X.2.1 dX9_turn_46 rfl (lv_at hl 1 rfl) ?_
      refine lv_aload_n X.1 X.2.1 dX9_turn_47 rfl (lv_at hl 1 rfl) ?_
      refine r_getr (b2 := 1) X w lyM_0 rfl inT9 1 rfl rfl (by decide) rfl tw_903 dX9_turn_48 ?_
      refine lv_iload_n X.1 X.2.1 dX9_turn_51 rfl (lv_at hl 0 rfl) ?_
      refine lv_bipush (v := (7 : Int32)) X.1 X.2.1 dX9_turn_52 (by decide) ?_
      refine lv_iadd X.1 X.2.1 dX9_turn_54 ?_
      obtain ⟨hi8, h⟩ := gd_some h
      refine r_iald X w lyM_1 hi8 dX9_turn_55 ?_
      refine r_put X w lyM_0 rfl inT9 tyX9 tyX9_ok nmX9 12 rfl (by decide) rfl rfl tw_914 rfl rfl dX9_turn_56 (fun H locs w => ?_)
      obtain ⟨m9, em9, h⟩ := wk_some h
      rw [em9] at w
      refine lv_aload_n X.1 X.2.1 dX9_turn_59 rfl (lv_at hl 1 rfl) ?_
      refine lv_aload_n X.1 X.2.1 dX9_turn_60 rfl (lv_at hl 1 rfl) ?_
      refine r_getr (b2 := 1) X w lyM_0 rfl inT9 1 rfl rfl (by decide) rfl tw_903 dX9_turn_61 ?_
      refine lv_iload_n X.1 X.2.1 dX9_turn_64 rfl (lv_at hl 0 rfl) ?_
      refine lv_bipush (v := (8 : Int32)) X.1 X.2.1 dX9_turn_65 (by decide) ?_
      refine lv_iadd X.1 X.2.1 dX9_turn_67 ?_
      obtain ⟨hi10, h⟩ := gd_some h
      refine r_iald X w lyM_1 hi10 dX9_turn_68 ?_
      refine r_put X w lyM_0 rfl inT9 tyX9 tyX9_ok nmX9 13 rfl (by decide) rfl rfl tw_915 rfl rfl dX9_turn_69 (fun H locs w => ?_)
      obtain ⟨m11, em11, h⟩ := wk_some h
      rw [em11] at w
      refine lv_aload_n X.1 X.2.1 dX9_turn_72 rfl (lv_at hl 1 rfl) ?_
      refine lv_iconst (v := (0 : Int32)) X.1 X.2.1 dX9_turn_73 (by decide) ?_
      refine r_put X w lyM_0 rfl inT9 tyX9 tyX9_ok nmX9 14 rfl (by decide) rfl rfl tw_916 rfl rfl dX9_turn_74 (fun H locs w => ?_)
      obtain ⟨m12, em12, h⟩ := wk_some h
      rw [em12] at w
      refine lv_aload_n X.1 X.2.1 dX9_turn_77 rfl (lv_at hl 1 rfl) ?_
      refine lv_iconst (v := (0 : Int32)) X.1 X.2.1 dX9_turn_78 (by decide) ?_
      refine r_put X w lyM_0 rfl inT9 tyX9 tyX9_ok nmX9 16 rfl (by decide) rfl rfl tw_918 rfl rfl dX9_turn_79 (fun H locs w => ?_)
      obtain ⟨m13, em13, h⟩ := wk_some h
      rw [em13] at w
      refine lv_aload_n X.1 X.2.1 dX9_turn_82 rfl (lv_at hl 1 rfl) ?_
      refine lv_aload_n X.1 X.2.1 dX9_turn_83 rfl (lv_at hl 1 rfl) ?_
      refine r_getr (b2 := 1) X w lyM_0 rfl inT9 1 rfl rfl (by decide) rfl tw_903 dX9_turn_84 ?_
      refine lv_iload_n X.1 X.2.1 dX9_turn_87 rfl (lv_at hl 0 rfl) ?_
      refine lv_bipush (v := (9 : Int32)) X.1 X.2.1 dX9_turn_88 (by decide) ?_
      refine lv_iadd X.1 X.2.1 dX9_turn_90 ?_
      obtain ⟨hi14, h⟩ := gd_some h
      refine r_iald X w lyM_1 hi14 dX9_turn_91 ?_
      refine lv_aload_n X.1 X.2.1 dX9_turn_92 rfl (lv_at hl 1 rfl) ?_
      refine r_getr (b2 := 1) X w lyM_0 rfl inT9 1 rfl rfl (by decide) rfl tw_903 dX9_turn_93 ?_
      refine lv_iload_n X.1 X.2.1 dX9_turn_96 rfl (lv_at hl 0 rfl) ?_
      refine lv_iconst (v := (1 : Int32)) X.1 X.2.1 dX9_turn_97 (by decide) ?_
      refine lv_iadd X.1 X.2.1 dX9_turn_98 ?_
      obtain ⟨hi15, h⟩ := gd_some h
      refine r_iald X w lyM_1 hi15 dX9_turn_99 ?_
      refine lv_aload_n X.1 X.2.1 dX9_turn_100 rfl (lv_at hl 1 rfl) ?_
      refine r_getr (b2 := 1) X w lyM_0 rfl inT9 1 rfl rfl (by decide) rfl tw_903 dX9_turn_101 ?_
      refine lv_iload_n X.1 X.2.1 dX9_turn_104 rfl (lv_at hl 0 rfl) ?_
      refine lv_iconst (v := (2 : Int32)) X.1 X.2.1 dX9_turn_105 (by decide) ?_
      refine lv_iadd X.1 X.2.1 dX9_turn_106 ?_
      obtain ⟨hi16, h⟩ := gd_some h
      refine r_iald X w lyM_1 hi16 dX9_turn_107 ?_
      refine lv_aload_n X.1 X.2.1 dX9_turn_108 rfl (lv_at hl 1 rfl) ?_
      refine r_getr (b2 := 1) X w lyM_0 rfl inT9 1 rfl rfl (by decide) rfl tw_903 dX9_turn_109 ?_
      refine lv_iload_n X.1 X.2.1 dX9_turn_112 rfl (lv_at hl 0 rfl) ?_
      refine lv_iconst (v := (3 : Int32)) X.1 X.2.1 dX9_turn_113 (by decide) ?_
      refine lv_iadd X.1 X.2.1 dX9_turn_114 ?_
      obtain ⟨hi17, h⟩ := gd_some h
      refine r_iald X w lyM_1 hi17 dX9_turn_115 ?_
      refine lv_iconst (v := (1 : Int32)) X.1 X.2.1 dX9_turn_116 (by decide) ?_
      refine lv_icmp_ne (tgt := 124) X.1 X.2.1 dX9_turn_117 (by decide) (fun c18 => ?_) (fun c18 => ?_)
      · rw [if_neg c18] at h
        refine lv_iconst (v := (0 : Int32)) X.1 X.2.1 dX9_turn_124 (by decide) ?_
        exact wX9_turn_b125 X M w (lv_sub hl [1, 2, 0] rfl) h
      · rw [if_pos c18] at h
        refine lv_iconst (v := (1 : Int32)) X.1 X.2.1 dX9_turn_120 (by decide) ?_
        refine lv_goto (tgt := 125) X.1 X.2.1 dX9_turn_121 (by decide) ?_
        exact wX9_turn_b125 X M w (lv_sub hl [1, 2, 0] rfl) h
    · rw [if_pos c4] at h
      refine lv_iconst (v := (-1 : Int32)) X.1 X.2.1 dX9_turn_22 (by decide) ?_
      obtain ⟨rfl, rfl⟩ := Prod.mk.inj (Option.some.inj h)
      exact r_iret X M w dX9_turn_23
/-! WalkHouseModel.walker(II)I (W) -/
theorem hdX9_walker : yX9_walker.cls = RX9 ∧ yX9_walker.cls ≠ "java/lang/invoke/MethodHandle" ∧ yX9_walker.cls ≠ "java/lang/invoke/VarHandle" ∧ (parseMethodDescriptor yX9_walker.desc).map (fun d => d.parameters.length) = some 2 := by decide +kernel
def fX9_walker (mem : Mm) (a1 : Int32) (a2 : Int32) : Option (Mm × Int32) :=
  wk mem 0 0 (0 : Int32) (fun m1 => if (fX9_within a1 (0 : Int32) (3 : Int32)) = 0 then some (m1, (-1 : Int32)) else if (fX9_within a2 (0 : Int32) (5 : Int32)) = 0 then some (m1, (-1 : Int32)) else bd (fX9_walkerOf m1 a1 (0 : Int32)) (fun r4 => if a2 = (0 : Int32) then some (m1, r4) else if a2 = (1 : Int32) then if r4 = 0 then some (m1, (-1 : Int32)) else bd (fX9_walkerOf m1 a1 (1 : Int32)) (fun r8 => some (m1, r8)) else if a2 = (2 : Int32) then if r4 = 0 then some (m1, (-1 : Int32)) else bd (fX9_walkerOf m1 a1 (4 : Int32)) (fun r11 => some (m1, r11)) else if a2 = (3 : Int32) then if r4 = (2 : Int32) then bd (fX9_walkerOf m1 a1 (5 : Int32)) (fun r14 => some (m1, r14)) else if r4 = (3 : Int32) then bd (fX9_walkerOf m1 a1 (5 : Int32)) (fun r16 => some (m1, r16)) else some (m1, (-1 : Int32)) else if a2 = (4 : Int32) then if r4 = (1 : Int32) then bd (fX9_walkerOf m1 a1 (6 : Int32)) (fun r19 => some (m1, r19)) else some (m1, (-1 : Int32)) else if r4 = 0 then some (m1, (-1 : Int32)) else bd (fX9_walkerOf m1 a1 (9 : Int32)) (fun r21 => some (m1, r21))))
set_option maxRecDepth 100000 in
set_option maxHeartbeats 4000000 in
theorem kX9_walker (l : Launch) (D : va_G) (ca : Nat → ClassId) (ad : Nat → Nat) (mem : Mm) (a1 : Int32) (a2 : Int32)  {mem' : Mm} {r : Int32} (h : fX9_walker mem a1 a2 = some (mem', r)) : CtI l yX9_walker cX9_walker 4 (some .int) (rmx 1 22) D ca ad layM mem [.ref (ad 0), .int a1, .int a2] mem' r := by
  refine CtI.of (by decide) (Nat.le_of_ble_eq_true rfl) ?_
  intro p e s m args below meth c H locs ls X M w hl
  replace X : CallFix p m c cX9_walker 4 s args TT RX9 := X
  replace hl : lv_has ls 4 [(0, .ref (ad 0)), (1, .int a1), (2, .int a2)] := hl
  unfold fX9_walker at h
  refine lv_aload_n X.1 X.2.1 dX9_walker_0 rfl (lv_at hl 0 rfl) ?_
  refine lv_iconst (v := (0 : Int32)) X.1 X.2.1 dX9_walker_1 (by decide) ?_
  refine r_put X w lyM_0 rfl inT9 tyX9 tyX9_ok nmX9 0 rfl (by decide) rfl rfl tw_902 rfl rfl dX9_walker_2 (fun H locs w => ?_)
  obtain ⟨m1, em1, h⟩ := wk_some h
  rw [em1] at w
  refine lv_iload_n X.1 X.2.1 dX9_walker_5 rfl (lv_at hl 1 rfl) ?_
  refine lv_iconst (v := (0 : Int32)) X.1 X.2.1 dX9_walker_6 (by decide) ?_
  refine lv_iconst (v := (3 : Int32)) X.1 X.2.1 dX9_walker_7 (by decide) ?_
  refine r_cSi (As := [.int a1, .int (0 : Int32), .int (3 : Int32)]) (rest := []) X w (kX9_within  l D ca ad m1 a1 (0 : Int32) (3 : Int32)  rfl) (gTS tw_983 tw_984 tw_75 tw_985) hdX9_within (by decide) rfl hl.1 rfl (Nat.le_of_ble_eq_true rfl) dX9_walker_8 ⟨Nat.zero_le _, Nat.zero_le _⟩ (fun H locs w => ?_)
  refine lv_if_eq (tgt := 23) X.1 X.2.1 dX9_walker_11 (by decide) (fun c2 => ?_) (fun c2 => ?_)
  · rw [if_pos c2] at h
    refine lv_iconst (v := (-1 : Int32)) X.1 X.2.1 dX9_walker_23 (by decide) ?_
    obtain ⟨rfl, rfl⟩ := Prod.mk.inj (Option.some.inj h)
    exact r_iret X M w dX9_walker_24
  · rw [if_neg c2] at h
    refine lv_iload_n X.1 X.2.1 dX9_walker_14 rfl (lv_at hl 2 rfl) ?_
    refine lv_iconst (v := (0 : Int32)) X.1 X.2.1 dX9_walker_15 (by decide) ?_
    refine lv_iconst (v := (5 : Int32)) X.1 X.2.1 dX9_walker_16 (by decide) ?_
    refine r_cSi (As := [.int a2, .int (0 : Int32), .int (5 : Int32)]) (rest := []) X w (kX9_within  l D ca ad m1 a2 (0 : Int32) (5 : Int32)  rfl) (gTS tw_983 tw_984 tw_75 tw_985) hdX9_within (by decide) rfl hl.1 rfl (Nat.le_of_ble_eq_true rfl) dX9_walker_17 ⟨Nat.zero_le _, Nat.zero_le _⟩ (fun H locs w => ?_)
    refine lv_if_ne (tgt := 25) X.1 X.2.1 dX9_walker_20 (by decide) (fun c3 => ?_) (fun c3 => ?_)
    · rw [if_neg c3] at h
      refine lv_aload_n X.1 X.2.1 dX9_walker_25 rfl (lv_at hl 0 rfl) ?_
      refine lv_iload_n X.1 X.2.1 dX9_walker_26 rfl (lv_at hl 1 rfl) ?_
      refine lv_iconst (v := (0 : Int32)) X.1 X.2.1 dX9_walker_27 (by decide) ?_
      obtain ⟨r4, hr4, h⟩ := bd_some h
      refine r_cVi (As := [.int a1, .int (0 : Int32)]) (rest := []) X w lyM_0 rfl (kX9_walkerOf  l D ca ad m1 a1 (0 : Int32)  hr4) (gTV tw_1027 tw_1029 tw_32 tw_75 tw_1030) hdX9_walkerOf (by decide) rfl hl.1 rfl (Nat.le_of_ble_eq_true rfl) dX9_walker_28 ⟨Nat.zero_le _, Nat.zero_le _⟩ (fun H locs w => ?_)
      refine lv_istore_n (lv' := [(3, .int r4), (0, .ref (ad 0)), (1, .int a1), (2, .int a2)]) X.1 X.2.1 dX9_walker_31 rfl hl (by decide) rfl (fun ls hl => ?_)
      refine lv_iload_n X.1 X.2.1 dX9_walker_32 rfl (lv_at hl 3 rfl) ?_
      by_cases c5 : a2 = (0 : Int32)
      · rw [if_pos c5] at h
        refine lv_tableIn (tgt := 68) X.1 X.2.1 dX9_walker_33 (by rw [c5]; decide) (by rw [c5]; decide) (by rw [c5]; rfl) (by decide) ?_
        refine lv_iload_n X.1 X.2.1 dX9_walker_68 rfl (lv_at hl 0 rfl) ?_
        obtain ⟨rfl, rfl⟩ := Prod.mk.inj (Option.some.inj h)
        exact r_iret X M w dX9_walker_69
      rw [if_neg c5] at h
      by_cases c6 : a2 = (1 : Int32)
      · rw [if_pos c6] at h
        refine lv_tableIn (tgt := 70) X.1 X.2.1 dX9_walker_33 (by rw [c6]; decide) (by rw [c6]; decide) (by rw [c6]; rfl) (by decide) ?_
        refine lv_iload_n X.1 X.2.1 dX9_walker_70 rfl (lv_at hl 0 rfl) ?_
        refine lv_if_ne (tgt := 78) X.1 X.2.1 dX9_walker_71 (by decide) (fun c7 => ?_) (fun c7 => ?_)
        · rw [if_neg c7] at h
          refine lv_aload_n X.1 X.2.1 dX9_walker_78 rfl (lv_at hl 1 rfl) ?_
          refine lv_iload_n X.1 X.2.1 dX9_walker_79 rfl (lv_at hl 2 rfl) ?_
          refine lv_iconst (v := (1 : Int32)) X.1 X.2.1 dX9_walker_80 (by decide) ?_
          obtain ⟨r8, hr8, h⟩ := bd_some h
          refine r_cVi (As := [.int a1, .int (1 : Int32)]) (rest := []) X w lyM_0 rfl (kX9_walkerOf  l D ca ad m1 a1 (1 : Int32)  hr8) (gTV tw_1027 tw_1029 tw_32 tw_75 tw_1030) hdX9_walkerOf (by decide) rfl hl.1 rfl (Nat.le_of_ble_eq_true rfl) dX9_walker_81 ⟨Nat.zero_le _, Nat.zero_le _⟩ (fun H locs w => ?_)
          obtain ⟨rfl, rfl⟩ := Prod.mk.inj (Option.some.inj h)
          exact r_iret X M w dX9_walker_84
        · rw [if_pos c7] at h
          refine lv_iconst (v := (-1 : Int32)) X.1 X.2.1 dX9_walker_74 (by decide) ?_
          refine lv_goto (tgt := 84) X.1 X.2.1 dX9_walker_75 (by decide) ?_
          obtain ⟨rfl, rfl⟩ := Prod.mk.inj (Option.some.inj h)
          exact r_iret X M w dX9_walker_84
      rw [if_neg c6] at h
      by_cases c9 : a2 = (2 : Int32)
      · rw [if_pos c9] at h
        refine lv_tableIn (tgt := 85) X.1 X.2.1 dX9_walker_33 (by rw [c9]; decide) (by rw [c9]; decide) (by rw [c9]; rfl) (by decide) ?_
        refine lv_iload_n X.1 X.2.1 dX9_walker_85 rfl (lv_at hl 0 rfl) ?_
        refine lv_if_ne (tgt := 93) X.1 X.2.1 dX9_walker_86 (by decide) (fun c10 => ?_) (fun c10 => ?_)
        · rw [if_neg c10] at h
          refine lv_aload_n X.1 X.2.1 dX9_walker_93 rfl (lv_at hl 1 rfl) ?_
          refine lv_iload_n X.1 X.2.1 dX9_walker_94 rfl (lv_at hl 2 rfl) ?_
          refine lv_iconst (v := (4 : Int32)) X.1 X.2.1 dX9_walker_95 (by decide) ?_
          obtain ⟨r11, hr11, h⟩ := bd_some h
          refine r_cVi (As := [.int a1, .int (4 : Int32)]) (rest := []) X w lyM_0 rfl (kX9_walkerOf  l D ca ad m1 a1 (4 : Int32)  hr11) (gTV tw_1027 tw_1029 tw_32 tw_75 tw_1030) hdX9_walkerOf (by decide) rfl hl.1 rfl (Nat.le_of_ble_eq_true rfl) dX9_walker_96 ⟨Nat.zero_le _, Nat.zero_le _⟩ (fun H locs w => ?_)
          obtain ⟨rfl, rfl⟩ := Prod.mk.inj (Option.some.inj h)
          exact r_iret X M w dX9_walker_99
        · rw [if_pos c10] at h
          refine lv_iconst (v := (-1 : Int32)) X.1 X.2.1 dX9_walker_89 (by decide) ?_
          refine lv_goto (tgt := 99) X.1 X.2.1 dX9_walker_90 (by decide) ?_
          obtain ⟨rfl, rfl⟩ := Prod.mk.inj (Option.some.inj h)
          exact r_iret X M w dX9_walker_99
      rw [if_neg c9] at h
      by_cases c12 : a2 = (3 : Int32)
      · rw [if_pos c12] at h
        refine lv_tableIn (tgt := 100) X.1 X.2.1 dX9_walker_33 (by rw [c12]; decide) (by rw [c12]; decide) (by rw [c12]; rfl) (by decide) ?_
        refine lv_iload_n X.1 X.2.1 dX9_walker_100 rfl (lv_at hl 0 rfl) ?_
        refine lv_iconst (v := (2 : Int32)) X.1 X.2.1 dX9_walker_101 (by decide) ?_
        refine lv_icmp_eq (tgt := 110) X.1 X.2.1 dX9_walker_102 (by decide) (fun c13 => ?_) (fun c13 => ?_)
        · rw [if_pos c13] at h
          refine lv_aload_n X.1 X.2.1 dX9_walker_110 rfl (lv_at hl 1 rfl) ?_
          refine lv_iload_n X.1 X.2.1 dX9_walker_111 rfl (lv_at hl 2 rfl) ?_
          refine lv_iconst (v := (5 : Int32)) X.1 X.2.1 dX9_walker_112 (by decide) ?_
          obtain ⟨r14, hr14, h⟩ := bd_some h
          refine r_cVi (As := [.int a1, .int (5 : Int32)]) (rest := []) X w lyM_0 rfl (kX9_walkerOf  l D ca ad m1 a1 (5 : Int32)  hr14) (gTV tw_1027 tw_1029 tw_32 tw_75 tw_1030) hdX9_walkerOf (by decide) rfl hl.1 rfl (Nat.le_of_ble_eq_true rfl) dX9_walker_113 ⟨Nat.zero_le _, Nat.zero_le _⟩ (fun H locs w => ?_)
          refine lv_goto (tgt := 120) X.1 X.2.1 dX9_walker_116 (by decide) ?_
          obtain ⟨rfl, rfl⟩ := Prod.mk.inj (Option.some.inj h)
          exact r_iret X M w dX9_walker_120
        · rw [if_neg c13] at h
          refine lv_iload_n X.1 X.2.1 dX9_walker_105 rfl (lv_at hl 0 rfl) ?_
          refine lv_iconst (v := (3 : Int32)) X.1 X.2.1 dX9_walker_106 (by decide) ?_
          refine lv_icmp_ne (tgt := 119) X.1 X.2.1 dX9_walker_107 (by decide) (fun c15 => ?_) (fun c15 => ?_)
          · rw [if_neg c15] at h
            refine lv_iconst (v := (-1 : Int32)) X.1 X.2.1 dX9_walker_119 (by decide) ?_
            obtain ⟨rfl, rfl⟩ := Prod.mk.inj (Option.some.inj h)
            exact r_iret X M w dX9_walker_120
          · rw [if_pos c15] at h
            refine lv_aload_n X.1 X.2.1 dX9_walker_110 rfl (lv_at hl 1 rfl) ?_
            refine lv_iload_n X.1 X.2.1 dX9_walker_111 rfl (lv_at hl 2 rfl) ?_
            refine lv_iconst (v := (5 : Int32)) X.1 X.2.1 dX9_walker_112 (by decide) ?_
            obtain ⟨r16, hr16, h⟩ := bd_some h
            refine r_cVi (As := [.int a1, .int (5 : Int32)]) (rest := []) X w lyM_0 rfl (kX9_walkerOf  l D ca ad m1 a1 (5 : Int32)  hr16) (gTV tw_1027 tw_1029 tw_32 tw_75 tw_1030) hdX9_walkerOf (by decide) rfl hl.1 rfl (Nat.le_of_ble_eq_true rfl) dX9_walker_113 ⟨Nat.zero_le _, Nat.zero_le _⟩ (fun H locs w => ?_)
            refine lv_goto (tgt := 120) X.1 X.2.1 dX9_walker_116 (by decide) ?_
            obtain ⟨rfl, rfl⟩ := Prod.mk.inj (Option.some.inj h)
            exact r_iret X M w dX9_walker_120
      rw [if_neg c12] at h
      by_cases c17 : a2 = (4 : Int32)
      · rw [if_pos c17] at h
        refine lv_tableIn (tgt := 121) X.1 X.2.1 dX9_walker_33 (by rw [c17]; decide) (by rw [c17]; decide) (by rw [c17]; rfl) (by decide) ?_
        refine lv_iload_n X.1 X.2.1 dX9_walker_121 rfl (lv_at hl 0 rfl) ?_
        refine lv_iconst (v := (1 : Int32)) X.1 X.2.1 dX9_walker_122 (by decide) ?_
        refine lv_icmp_ne (tgt := 136) X.1 X.2.1 dX9_walker_123 (by decide) (fun c18 => ?_) (fun c18 => ?_)
        · rw [if_neg c18] at h
          refine lv_iconst (v := (-1 : Int32)) X.1 X.2.1 dX9_walker_136 (by decide) ?_
          obtain ⟨rfl, rfl⟩ := Prod.mk.inj (Option.some.inj h)
          exact r_iret X M w dX9_walker_137
        · rw [if_pos c18] at h
          refine lv_aload_n X.1 X.2.1 dX9_walker_126 rfl (lv_at hl 1 rfl) ?_
          refine lv_iload_n X.1 X.2.1 dX9_walker_127 rfl (lv_at hl 2 rfl) ?_
          refine lv_bipush (v := (6 : Int32)) X.1 X.2.1 dX9_walker_128 (by decide) ?_
          obtain ⟨r19, hr19, h⟩ := bd_some h
          refine r_cVi (As := [.int a1, .int (6 : Int32)]) (rest := []) X w lyM_0 rfl (kX9_walkerOf  l D ca ad m1 a1 (6 : Int32)  hr19) (gTV tw_1027 tw_1029 tw_32 tw_75 tw_1030) hdX9_walkerOf (by decide) rfl hl.1 rfl (Nat.le_of_ble_eq_true rfl) dX9_walker_130 ⟨Nat.zero_le _, Nat.zero_le _⟩ (fun H locs w => ?_)
          refine lv_goto (tgt := 137) X.1 X.2.1 dX9_walker_133 (by decide) ?_
          obtain ⟨rfl, rfl⟩ := Prod.mk.inj (Option.some.inj h)
          exact r_iret X M w dX9_walker_137
      rw [if_neg c17] at h
      refine lv_tableOut (tgt := 138) X.1 X.2.1 dX9_walker_33 (sw_out 0 4 [(0 : Int32), (1 : Int32), (2 : Int32), (3 : Int32), (4 : Int32)] (fun z h1 h2 => by rcases (show z = 0 ∨ z = 1 ∨ z = 2 ∨ z = 3 ∨ z = 4 by omega) with rfl | rfl | rfl | rfl | rfl <;> decide) (by simp only [List.mem_cons, List.not_mem_nil, or_false, forall_eq_or_imp, forall_eq]; exact ⟨c5, c6, c9, c12, c17⟩)) (by decide) ?_
      refine lv_iload_n X.1 X.2.1 dX9_walker_138 rfl (lv_at hl 0 rfl) ?_
      refine lv_if_ne (tgt := 146) X.1 X.2.1 dX9_walker_139 (by decide) (fun c20 => ?_) (fun c20 => ?_)
      · rw [if_neg c20] at h
        refine lv_aload_n X.1 X.2.1 dX9_walker_146 rfl (lv_at hl 1 rfl) ?_
        refine lv_iload_n X.1 X.2.1 dX9_walker_147 rfl (lv_at hl 2 rfl) ?_
        refine lv_bipush (v := (9 : Int32)) X.1 X.2.1 dX9_walker_148 (by decide) ?_
        obtain ⟨r21, hr21, h⟩ := bd_some h
        refine r_cVi (As := [.int a1, .int (9 : Int32)]) (rest := []) X w lyM_0 rfl (kX9_walkerOf  l D ca ad m1 a1 (9 : Int32)  hr21) (gTV tw_1027 tw_1029 tw_32 tw_75 tw_1030) hdX9_walkerOf (by decide) rfl hl.1 rfl (Nat.le_of_ble_eq_true rfl) dX9_walker_150 ⟨Nat.zero_le _, Nat.zero_le _⟩ (fun H locs w => ?_)
        obtain ⟨rfl, rfl⟩ := Prod.mk.inj (Option.some.inj h)
        exact r_iret X M w dX9_walker_153
      · rw [if_pos c20] at h
        refine lv_iconst (v := (-1 : Int32)) X.1 X.2.1 dX9_walker_142 (by decide) ?_
        refine lv_goto (tgt := 153) X.1 X.2.1 dX9_walker_143 (by decide) ?_
        obtain ⟨rfl, rfl⟩ := Prod.mk.inj (Option.some.inj h)
        exact r_iret X M w dX9_walker_153
    · rw [if_pos c3] at h
      refine lv_iconst (v := (-1 : Int32)) X.1 X.2.1 dX9_walker_23 (by decide) ?_
      obtain ⟨rfl, rfl⟩ := Prod.mk.inj (Option.some.inj h)
      exact r_iret X M w dX9_walker_24
/-! WalkHouseModel.goes(IZ)I (W) -/
theorem hdX9_goes : yX9_goes.cls = RX9 ∧ yX9_goes.cls ≠ "java/lang/invoke/MethodHandle" ∧ yX9_goes.cls ≠ "java/lang/invoke/VarHandle" ∧ (parseMethodDescriptor yX9_goes.desc).map (fun d => d.parameters.length) = some 2 := by decide +kernel
def fX9_goes_b37  (mem : Mm) (x3 : Int32) (s1 : Int32) (s2 : Int32) : Option (Mm × Int32) :=
  gd s1 345 (wk mem 1 s1.toNatClampNeg s2 (fun m2 => if x3 = 0 then some (m2, (0 : Int32)) else some (m2, (1 : Int32))))
set_option maxRecDepth 100000 in
set_option maxHeartbeats 4000000 in
theorem wX9_goes_b37 {p : Program} {l : Launch} {e : Env} {s : State} {m : MethodId} {args : Array Value} {below : List Frame} {meth : Method} {c : Code} {D : va_G} {ca : Nat → ClassId} {ad : Nat → Nat} {H : Heap} {locs : List Loc} {ls : Array Slot} {mem : Mm} {x3 : Int32} {s1 : Int32} {s2 : Int32}  {mem' : Mm} {r : Int32} (X : CallFix p m c cX9_goes 4 s args TT RX9) (M : Mt meth (some .int))   (w : Wd D ca ad layM (AA ad layM.length) s.heap s mem H locs) (hl : lv_has ls 4 [(3, .int x3)]) (h : fX9_goes_b37  mem x3 s1 s2 = some (mem', r)) : W p l e (rmx 1 21) s m args below meth c H locs 0 0 (EndI D ca ad layM mem' r below args s) (F0 m 37 ls [.int s2, .int s1, .ref (ad 1)]) := by
  unfold fX9_goes_b37 at h
  obtain ⟨hi1, h⟩ := gd_some h
  refine r_iast X w lyM_1 hi1 dX9_goes_37 (fun H locs w => ?_)
  obtain ⟨m2, em2, h⟩ := wk_some h
  rw [em2] at w
  refine lv_iload_n X.1 X.2.1 dX9_goes_38 rfl (lv_at hl 0 rfl) ?_
  refine lv_if_eq (tgt := 46) X.1 X.2.1 dX9_goes_39 (by decide) (fun c3 => ?_) (fun c3 => ?_)
  · rw [if_pos c3] at h
    refine lv_iconst (v := (0 : Int32)) X.1 X.2.1 dX9_goes_46 (by decide) ?_
    obtain ⟨rfl, rfl⟩ := Prod.mk.inj (Option.some.inj h)
    exact r_iret X M w dX9_goes_47
  · rw [if_neg c3] at h
    refine lv_iconst (v := (1 : Int32)) X.1 X.2.1 dX9_goes_42 (by decide) ?_
    refine lv_goto (tgt := 47) X.1 X.2.1 dX9_goes_43 (by decide) ?_
    obtain ⟨rfl, rfl⟩ := Prod.mk.inj (Option.some.inj h)
    exact r_iret X M w dX9_goes_47
def fX9_goes_b17  (mem : Mm) (x1 : Int32) (s0 : Int32) : Option (Mm × Int32) :=
  if s0 = 0 then gd x1 345 (fX9_goes_b37 mem s0 x1 (mem 1 x1.toNatClampNeg)) else fX9_goes_b37 mem s0 x1 (-1 : Int32)
set_option maxRecDepth 100000 in
set_option maxHeartbeats 4000000 in
theorem wX9_goes_b17 {p : Program} {l : Launch} {e : Env} {s : State} {m : MethodId} {args : Array Value} {below : List Frame} {meth : Method} {c : Code} {D : va_G} {ca : Nat → ClassId} {ad : Nat → Nat} {H : Heap} {locs : List Loc} {ls : Array Slot} {mem : Mm} {x1 : Int32} {s0 : Int32}  {mem' : Mm} {r : Int32} (X : CallFix p m c cX9_goes 4 s args TT RX9) (M : Mt meth (some .int))   (w : Wd D ca ad layM (AA ad layM.length) s.heap s mem H locs) (hl : lv_has ls 4 [(0, .ref (ad 0)), (1, .int x1)]) (h : fX9_goes_b17  mem x1 s0 = some (mem', r)) : W p l e (rmx 1 21) s m args below meth c H locs 0 0 (EndI D ca ad layM mem' r below args s) (F0 m 17 ls [.int s0]) := by
  unfold fX9_goes_b17 at h
  refine lv_istore_n (lv' := [(3, .int s0), (0, .ref (ad 0)), (1, .int x1)]) X.1 X.2.1 dX9_goes_17 rfl hl (by decide) rfl (fun ls hl => ?_)
  refine lv_aload_n X.1 X.2.1 dX9_goes_18 rfl (lv_at hl 1 rfl) ?_
  refine r_getr (b2 := 1) X w lyM_0 rfl inT9 1 rfl rfl (by decide) rfl tw_903 dX9_goes_19 ?_
  refine lv_iload_n X.1 X.2.1 dX9_goes_22 rfl (lv_at hl 2 rfl) ?_
  refine lv_iload_n X.1 X.2.1 dX9_goes_23 rfl (lv_at hl 0 rfl) ?_
  refine lv_if_eq (tgt := 31) X.1 X.2.1 dX9_goes_24 (by decide) (fun c1 => ?_) (fun c1 => ?_)
  · rw [if_pos c1] at h
    refine lv_aload_n X.1 X.2.1 dX9_goes_31 rfl (lv_at hl 1 rfl) ?_
    refine r_getr (b2 := 1) X w lyM_0 rfl inT9 1 rfl rfl (by decide) rfl tw_903 dX9_goes_32 ?_
    refine lv_iload_n X.1 X.2.1 dX9_goes_35 rfl (lv_at hl 2 rfl) ?_
    obtain ⟨hi2, h⟩ := gd_some h
    refine r_iald X w lyM_1 hi2 dX9_goes_36 ?_
    exact wX9_goes_b37 X M w (lv_sub hl [0] rfl) h
  · rw [if_neg c1] at h
    refine lv_iconst (v := (-1 : Int32)) X.1 X.2.1 dX9_goes_27 (by decide) ?_
    refine lv_goto (tgt := 37) X.1 X.2.1 dX9_goes_28 (by decide) ?_
    exact wX9_goes_b37 X M w (lv_sub hl [0] rfl) h
def fX9_goes (mem : Mm) (a1 : Int32) (a2 : Int32) : Option (Mm × Int32) :=
  bd (fX9_isEmpty mem a1) (fun r1 => if r1 = 0 then if a2 = 0 then fX9_goes_b17 mem a1 (0 : Int32) else fX9_goes_b17 mem a1 (1 : Int32) else fX9_goes_b17 mem a1 (0 : Int32))
set_option maxRecDepth 100000 in
set_option maxHeartbeats 4000000 in
theorem kX9_goes (l : Launch) (D : va_G) (ca : Nat → ClassId) (ad : Nat → Nat) (mem : Mm) (a1 : Int32) (a2 : Int32)  {mem' : Mm} {r : Int32} (h : fX9_goes mem a1 a2 = some (mem', r)) : CtI l yX9_goes cX9_goes 4 (some .int) (rmx 1 21) D ca ad layM mem [.ref (ad 0), .int a1, .int a2] mem' r := by
  refine CtI.of (by decide) (Nat.le_of_ble_eq_true rfl) ?_
  intro p e s m args below meth c H locs ls X M w hl
  replace X : CallFix p m c cX9_goes 4 s args TT RX9 := X
  replace hl : lv_has ls 4 [(0, .ref (ad 0)), (1, .int a1), (2, .int a2)] := hl
  unfold fX9_goes at h
  refine lv_aload_n X.1 X.2.1 dX9_goes_0 rfl (lv_at hl 0 rfl) ?_
  refine lv_iload_n X.1 X.2.1 dX9_goes_1 rfl (lv_at hl 1 rfl) ?_
  obtain ⟨r1, hr1, h⟩ := bd_some h
  refine r_cVi (As := [.int a1]) (rest := []) X w lyM_0 rfl (kX9_isEmpty  l D ca ad mem a1  hr1) (gTV tw_1062 tw_1064 tw_39 tw_75 tw_1065) hdX9_isEmpty (by decide) rfl hl.1 rfl (Nat.le_of_ble_eq_true rfl) dX9_goes_2 ⟨Nat.zero_le _, Nat.zero_le _⟩ (fun H locs w => ?_)
  refine lv_if_ne (tgt := 16) X.1 X.2.1 dX9_goes_5 (by decide) (fun c2 => ?_) (fun c2 => ?_)
  · rw [if_neg c2] at h
    refine lv_iconst (v := (0 : Int32)) X.1 X.2.1 dX9_goes_16 (by decide) ?_
    exact wX9_goes_b17 X M w (lv_sub hl [0, 1] rfl) h
  · rw [if_pos c2] at h
    refine lv_iload_n X.1 X.2.1 dX9_goes_8 rfl (lv_at hl 2 rfl) ?_
    refine lv_if_eq (tgt := 16) X.1 X.2.1 dX9_goes_9 (by decide) (fun c3 => ?_) (fun c3 => ?_)
    · rw [if_pos c3] at h
      refine lv_iconst (v := (0 : Int32)) X.1 X.2.1 dX9_goes_16 (by decide) ?_
      exact wX9_goes_b17 X M w (lv_sub hl [0, 1] rfl) h
    · rw [if_neg c3] at h
      refine lv_iconst (v := (1 : Int32)) X.1 X.2.1 dX9_goes_12 (by decide) ?_
      refine lv_goto (tgt := 17) X.1 X.2.1 dX9_goes_13 (by decide) ?_
      exact wX9_goes_b17 X M w (lv_sub hl [0, 1] rfl) h
/-! WalkHouseModel.isGlobal(I)Z (R) -/
theorem hdX9_isGlobal : yX9_isGlobal.cls = RX9 ∧ yX9_isGlobal.cls ≠ "java/lang/invoke/MethodHandle" ∧ yX9_isGlobal.cls ≠ "java/lang/invoke/VarHandle" ∧ (parseMethodDescriptor yX9_isGlobal.desc).map (fun d => d.parameters.length) = some 1 := by decide +kernel
def fX9_isGlobal (mem : Mm) (a1 : Int32) : Option Int32 :=
  gd (a1 + (4 : Int32)) 345 (if ((mem 1 (a1 + (4 : Int32)).toNatClampNeg) &&& (8 : Int32)) = 0 then some (0 : Int32) else some (1 : Int32))
set_option maxRecDepth 100000 in
set_option maxHeartbeats 4000000 in
theorem kX9_isGlobal (l : Launch) (D : va_G) (ca : Nat → ClassId) (ad : Nat → Nat) (mem : Mm) (a1 : Int32)  {r : Int32} (h : fX9_isGlobal mem a1 = some r) : CtI l yX9_isGlobal cX9_isGlobal 2 (some .boolean) (rmx 0 0) D ca ad layM mem [.ref (ad 0), .int a1] mem r := by
  refine CtI.of (by decide) (Nat.le_of_ble_eq_true rfl) ?_
  intro p e s m args below meth c H locs ls X M w hl
  replace X : CallFix p m c cX9_isGlobal 2 s args TT RX9 := X
  replace hl : lv_has ls 2 [(0, .ref (ad 0)), (1, .int a1)] := hl
  unfold fX9_isGlobal at h
  refine lv_aload_n X.1 X.2.1 dX9_isGlobal_0 rfl (lv_at hl 0 rfl) ?_
  refine r_getr (b2 := 1) X w lyM_0 rfl inT9 1 rfl rfl (by decide) rfl tw_903 dX9_isGlobal_1 ?_
  refine lv_iload_n X.1 X.2.1 dX9_isGlobal_4 rfl (lv_at hl 1 rfl) ?_
  refine lv_iconst (v := (4 : Int32)) X.1 X.2.1 dX9_isGlobal_5 (by decide) ?_
  refine lv_iadd X.1 X.2.1 dX9_isGlobal_6 ?_
  obtain ⟨hi1, h⟩ := gd_some h
  refine r_iald X w lyM_1 hi1 dX9_isGlobal_7 ?_
  refine lv_bipush (v := (8 : Int32)) X.1 X.2.1 dX9_isGlobal_8 (by decide) ?_
  refine lv_iand X.1 X.2.1 dX9_isGlobal_10 ?_
  refine lv_if_eq (tgt := 18) X.1 X.2.1 dX9_isGlobal_11 (by decide) (fun c2 => ?_) (fun c2 => ?_)
  · rw [if_pos c2] at h
    refine lv_iconst (v := (0 : Int32)) X.1 X.2.1 dX9_isGlobal_18 (by decide) ?_
    obtain rfl := Option.some.inj h
    exact r_zret X M w (by decide) dX9_isGlobal_19
  · rw [if_neg c2] at h
    refine lv_iconst (v := (1 : Int32)) X.1 X.2.1 dX9_isGlobal_14 (by decide) ?_
    refine lv_goto (tgt := 19) X.1 X.2.1 dX9_isGlobal_15 (by decide) ?_
    obtain rfl := Option.some.inj h
    exact r_zret X M w (by decide) dX9_isGlobal_19
/-! WalkHouseModel.fence(II)I (W) -/
theorem hdX9_fence : yX9_fence.cls = RX9 ∧ yX9_fence.cls ≠ "java/lang/invoke/MethodHandle" ∧ yX9_fence.cls ≠ "java/lang/invoke/VarHandle" ∧ (parseMethodDescriptor yX9_fence.desc).map (fun d => d.parameters.length) = some 2 := by decide +kernel
def fX9_fence_b175_s  (k175 : Mm → Int32 → Int32 → Int32 → Int32 → Option (Mm × Int32)) (mem : Mm) (x1 : Int32) (x3 : Int32) (x4 : Int32) (x5 : Int32) : Option (Mm × Int32) :=
  if (4 : Int32) ≤ x5 then some (mem, x4) else bd (fX9_isGoing mem x5) (fun r2 => if r2 = 0 then k175 mem x1 x3 x4 (x5 + (1 : Int32)) else bd (fX9_walkerOf mem x5 (9 : Int32)) (fun r4 => if r4 = x3 then bw (fX9_aborts mem x5) (fun m7 r6 => k175 m7 x1 x3 x4 (x5 + (1 : Int32))) else bd (fX9_walkerOf mem x5 (1 : Int32)) (fun r8 => if r8 = x1 then bw (fX9_aborts mem x5) (fun m11 r10 => k175 m11 x1 x3 x4 (x5 + (1 : Int32))) else k175 mem x1 x3 x4 (x5 + (1 : Int32)))))
def fX9_fence_b175  : Nat → Mm → Int32 → Int32 → Int32 → Int32 → Option (Mm × Int32)
  | 0 => fun _ _ _ _ _ => none
  | n + 1 => fX9_fence_b175_s  (fX9_fence_b175  n)
set_option maxRecDepth 100000 in
set_option maxHeartbeats 4000000 in
theorem wX9_fence_b175_s {p : Program} {l : Launch} {e : Env} {s : State} {m : MethodId} {args : Array Value} {below : List Frame} {meth : Method} {c : Code} {D : va_G} {ca : Nat → ClassId} {ad : Nat → Nat} {H : Heap} {locs : List Loc} {ls : Array Slot} {mem : Mm} {x1 : Int32} {x3 : Int32} {x4 : Int32} {x5 : Int32}  {k175 : Mm → Int32 → Int32 → Int32 → Int32 → Option (Mm × Int32)} {mem' : Mm} {r : Int32} (X : CallFix p m c cX9_fence 8 s args TT RX9) (M : Mt meth (some .int))  (hk175 : ∀ (mem : Mm) (x1 : Int32) (x3 : Int32) (x4 : Int32) (x5 : Int32) (H : Heap) (locs : List Loc) (ls : Array Slot) , Wd D ca ad layM (AA ad layM.length) s.heap s mem H locs → lv_has ls 8 [(0, .ref (ad 0)), (1, .int x1), (3, .int x3), (4, .int x4), (5, .int x5)] → k175 mem x1 x3 x4 x5 = some (mem', r) → W p l e (rmx 2 44) s m args below meth c H locs 0 0 (EndI D ca ad layM mem' r below args s) (F0 m 175 ls []))  (w : Wd D ca ad layM (AA ad layM.length) s.heap s mem H locs) (hl : lv_has ls 8 [(0, .ref (ad 0)), (1, .int x1), (3, .int x3), (4, .int x4), (5, .int x5)]) (h : fX9_fence_b175_s  k175 mem x1 x3 x4 x5 = some (mem', r)) : W p l e (rmx 2 44) s m args below meth c H locs 0 0 (EndI D ca ad layM mem' r below args s) (F0 m 175 ls []) := by
  unfold fX9_fence_b175_s at h
  refine lv_iload X.1 X.2.1 dX9_fence_175 (lv_at hl 4 rfl) ?_
  refine lv_iconst (v := (4 : Int32)) X.1 X.2.1 dX9_fence_177 (by decide) ?_
  refine lv_icmp_ge (tgt := 225) X.1 X.2.1 dX9_fence_178 (by decide) (fun c1 => ?_) (fun c1 => ?_)
  · rw [if_pos c1] at h
    refine lv_iload X.1 X.2.1 dX9_fence_225 (lv_at hl 3 rfl) ?_
    obtain ⟨rfl, rfl⟩ := Prod.mk.inj (Option.some.inj h)
    exact r_iret X M w dX9_fence_227
  · rw [if_neg c1] at h
    refine lv_aload_n X.1 X.2.1 dX9_fence_181 rfl (lv_at hl 0 rfl) ?_
    refine lv_iload X.1 X.2.1 dX9_fence_182 (lv_at hl 4 rfl) ?_
    obtain ⟨r2, hr2, h⟩ := bd_some h
    refine r_cVi (As := [.int x5]) (rest := []) X w lyM_0 rfl (kX9_isGoing  l D ca ad mem x5  hr2) (gTV tw_1023 tw_1025 tw_31 tw_75 tw_1026) hdX9_isGoing (by decide) rfl hl.1 rfl (Nat.le_of_ble_eq_true rfl) dX9_fence_184 ⟨Nat.zero_le _, Nat.zero_le _⟩ (fun H locs w => ?_)
    refine lv_if_eq (tgt := 219) X.1 X.2.1 dX9_fence_187 (by decide) (fun c3 => ?_) (fun c3 => ?_)
    · rw [if_pos c3] at h
      refine lv_iinc (v := (x5 + (1 : Int32))) (lv' := [(5, .int (x5 + (1 : Int32))), (0, .ref (ad 0)), (1, .int x1), (3, .int x3), (4, .int x4)]) X.1 X.2.1 dX9_fence_219 hl (k := 4) rfl rfl (by decide) rfl (fun ls hl => ?_)
      refine lv_goto (tgt := 175) X.1 X.2.1 dX9_fence_222 (by decide) ?_
      exact hk175 _ _ _ _ _ H locs ls w (lv_sub hl [1, 2, 3, 4, 0] rfl) h
    · rw [if_neg c3] at h
      refine lv_aload_n X.1 X.2.1 dX9_fence_190 rfl (lv_at hl 0 rfl) ?_
      refine lv_iload X.1 X.2.1 dX9_fence_191 (lv_at hl 4 rfl) ?_
      refine lv_bipush (v := (9 : Int32)) X.1 X.2.1 dX9_fence_193 (by decide) ?_
      obtain ⟨r4, hr4, h⟩ := bd_some h
      refine r_cVi (As := [.int x5, .int (9 : Int32)]) (rest := []) X w lyM_0 rfl (kX9_walkerOf  l D ca ad mem x5 (9 : Int32)  hr4) (gTV tw_1027 tw_1029 tw_32 tw_75 tw_1030) hdX9_walkerOf (by decide) rfl hl.1 rfl (Nat.le_of_ble_eq_true rfl) dX9_fence_195 ⟨Nat.zero_le _, Nat.zero_le _⟩ (fun H locs w => ?_)
      refine lv_iload_n X.1 X.2.1 dX9_fence_198 rfl (lv_at hl 2 rfl) ?_
      refine lv_icmp_eq (tgt := 213) X.1 X.2.1 dX9_fence_199 (by decide) (fun c5 => ?_) (fun c5 => ?_)
      · rw [if_pos c5] at h
        refine lv_aload_n X.1 X.2.1 dX9_fence_213 rfl (lv_at hl 0 rfl) ?_
        refine lv_iload X.1 X.2.1 dX9_fence_214 (lv_at hl 4 rfl) ?_
        obtain ⟨m7, r6, hr6, h⟩ := bw_some h
        refine r_cVv (As := [.int x5]) (rest := []) X w lyM_0 rfl (kX9_aborts  l D ca ad mem x5  hr6) (gTV tw_1031 tw_1033 tw_33 tw_75 tw_1034) hdX9_aborts (by decide) rfl hl.1 rfl (Nat.le_of_ble_eq_true rfl) dX9_fence_216 ⟨Nat.zero_le _, Nat.zero_le _⟩ (fun H locs w => ?_)
        refine lv_iinc (v := (x5 + (1 : Int32))) (lv' := [(5, .int (x5 + (1 : Int32))), (0, .ref (ad 0)), (1, .int x1), (3, .int x3), (4, .int x4)]) X.1 X.2.1 dX9_fence_219 hl (k := 4) rfl rfl (by decide) rfl (fun ls hl => ?_)
        refine lv_goto (tgt := 175) X.1 X.2.1 dX9_fence_222 (by decide) ?_
        exact hk175 _ _ _ _ _ H locs ls w (lv_sub hl [1, 2, 3, 4, 0] rfl) h
      · rw [if_neg c5] at h
        refine lv_aload_n X.1 X.2.1 dX9_fence_202 rfl (lv_at hl 0 rfl) ?_
        refine lv_iload X.1 X.2.1 dX9_fence_203 (lv_at hl 4 rfl) ?_
        refine lv_iconst (v := (1 : Int32)) X.1 X.2.1 dX9_fence_205 (by decide) ?_
        obtain ⟨r8, hr8, h⟩ := bd_some h
        refine r_cVi (As := [.int x5, .int (1 : Int32)]) (rest := []) X w lyM_0 rfl (kX9_walkerOf  l D ca ad mem x5 (1 : Int32)  hr8) (gTV tw_1027 tw_1029 tw_32 tw_75 tw_1030) hdX9_walkerOf (by decide) rfl hl.1 rfl (Nat.le_of_ble_eq_true rfl) dX9_fence_206 ⟨Nat.zero_le _, Nat.zero_le _⟩ (fun H locs w => ?_)
        refine lv_iload_n X.1 X.2.1 dX9_fence_209 rfl (lv_at hl 1 rfl) ?_
        refine lv_icmp_ne (tgt := 219) X.1 X.2.1 dX9_fence_210 (by decide) (fun c9 => ?_) (fun c9 => ?_)
        · rw [if_neg c9] at h
          refine lv_iinc (v := (x5 + (1 : Int32))) (lv' := [(5, .int (x5 + (1 : Int32))), (0, .ref (ad 0)), (1, .int x1), (3, .int x3), (4, .int x4)]) X.1 X.2.1 dX9_fence_219 hl (k := 4) rfl rfl (by decide) rfl (fun ls hl => ?_)
          refine lv_goto (tgt := 175) X.1 X.2.1 dX9_fence_222 (by decide) ?_
          exact hk175 _ _ _ _ _ H locs ls w (lv_sub hl [1, 2, 3, 4, 0] rfl) h
        · rw [if_pos c9] at h
          refine lv_aload_n X.1 X.2.1 dX9_fence_213 rfl (lv_at hl 0 rfl) ?_
          refine lv_iload X.1 X.2.1 dX9_fence_214 (lv_at hl 4 rfl) ?_
          obtain ⟨m11, r10, hr10, h⟩ := bw_some h
          refine r_cVv (As := [.int x5]) (rest := []) X w lyM_0 rfl (kX9_aborts  l D ca ad mem x5  hr10) (gTV tw_1031 tw_1033 tw_33 tw_75 tw_1034) hdX9_aborts (by decide) rfl hl.1 rfl (Nat.le_of_ble_eq_true rfl) dX9_fence_216 ⟨Nat.zero_le _, Nat.zero_le _⟩ (fun H locs w => ?_)
          refine lv_iinc (v := (x5 + (1 : Int32))) (lv' := [(5, .int (x5 + (1 : Int32))), (0, .ref (ad 0)), (1, .int x1), (3, .int x3), (4, .int x4)]) X.1 X.2.1 dX9_fence_219 hl (k := 4) rfl rfl (by decide) rfl (fun ls hl => ?_)
          refine lv_goto (tgt := 175) X.1 X.2.1 dX9_fence_222 (by decide) ?_
          exact hk175 _ _ _ _ _ H locs ls w (lv_sub hl [1, 2, 3, 4, 0] rfl) h
set_option maxRecDepth 100000 in
set_option maxHeartbeats 4000000 in
theorem wX9_fence_b175 {p : Program} {l : Launch} {e : Env} {s : State} {m : MethodId} {args : Array Value} {below : List Frame} {meth : Method} {c : Code} {D : va_G} {ca : Nat → ClassId} {ad : Nat → Nat}  {mem' : Mm} {r : Int32} (X : CallFix p m c cX9_fence 8 s args TT RX9) (M : Mt meth (some .int))  : ∀ (n : Nat) (mem : Mm) (x1 : Int32) (x3 : Int32) (x4 : Int32) (x5 : Int32) (H : Heap) (locs : List Loc) (ls : Array Slot)  (_ : Wd D ca ad layM (AA ad layM.length) s.heap s mem H locs) (_ : lv_has ls 8 [(0, .ref (ad 0)), (1, .int x1), (3, .int x3), (4, .int x4), (5, .int x5)]) (_ : fX9_fence_b175  n mem x1 x3 x4 x5 = some (mem', r)), W p l e (rmx 2 44) s m args below meth c H locs 0 0 (EndI D ca ad layM mem' r below args s) (F0 m 175 ls []) := by
  intro n
  induction n with
  | zero => intro mem x1 x3 x4 x5 H locs ls  w hl h; exact (nofun : (none : Option (Mm × Int32)) = _ → _) h
  | succ n ih => intro mem x1 x3 x4 x5 H locs ls  w hl h; exact wX9_fence_b175_s X M  ih  w hl h
def fX9_fence_b123 (k54 : Mm → Int32 → Int32 → Int32 → Int32 → Option (Mm × Int32)) (mem : Mm) (x1 : Int32) (x3 : Int32) (x5 : Int32) (x7 : Int32) (s0 : Int32) (s2 : Int32) (s3 : Int32) : Option (Mm × Int32) :=
  bw (fX9_goes mem s2 s3) (fun m2 r1 => lk (s0 + r1) (fun x_3 => bd (fX9_isUnder m2 x7 x1) (fun r4 => if r4 = 0 then bw (fX9_goes m2 x7 (0 : Int32)) (fun m7 r6 => lk (x_3 + r6) (fun x_8 => k54 m7 x1 x3 x_8 (x5 + (1 : Int32)))) else gd x7 345 (if (m2 1 x7.toNatClampNeg) = x3 then bw (fX9_goes m2 x7 (1 : Int32)) (fun m15 r14 => lk (x_3 + r14) (fun x_16 => k54 m15 x1 x3 x_16 (x5 + (1 : Int32)))) else bw (fX9_goes m2 x7 (0 : Int32)) (fun m12 r11 => lk (x_3 + r11) (fun x_13 => k54 m12 x1 x3 x_13 (x5 + (1 : Int32))))))))
set_option maxRecDepth 100000 in
set_option maxHeartbeats 4000000 in
theorem wX9_fence_b123 {p : Program} {l : Launch} {e : Env} {s : State} {m : MethodId} {args : Array Value} {below : List Frame} {meth : Method} {c : Code} {D : va_G} {ca : Nat → ClassId} {ad : Nat → Nat} {H : Heap} {locs : List Loc} {ls : Array Slot} {mem : Mm} {x1 : Int32} {x3 : Int32} {x5 : Int32} {x7 : Int32} {s0 : Int32} {s2 : Int32} {s3 : Int32} {k54 : Mm → Int32 → Int32 → Int32 → Int32 → Option (Mm × Int32)} {mem' : Mm} {r : Int32} (X : CallFix p m c cX9_fence 8 s args TT RX9) (M : Mt meth (some .int)) (hk54 : ∀ (mem : Mm) (x1 : Int32) (x3 : Int32) (x4 : Int32) (x5 : Int32) (H : Heap) (locs : List Loc) (ls : Array Slot) , Wd D ca ad layM (AA ad layM.length) s.heap s mem H locs → lv_has ls 8 [(0, .ref (ad 0)), (1, .int x1), (3, .int x3), (4, .int x4), (5, .int x5)] → k54 mem x1 x3 x4 x5 = some (mem', r) → W p l e (rmx 2 44) s m args below meth c H locs 0 0 (EndI D ca ad layM mem' r below args s) (F0 m 54 ls []))  (w : Wd D ca ad layM (AA ad layM.length) s.heap s mem H locs) (hl : lv_has ls 8 [(0, .ref (ad 0)), (1, .int x1), (3, .int x3), (5, .int x5), (7, .int x7)]) (h : fX9_fence_b123 k54 mem x1 x3 x5 x7 s0 s2 s3 = some (mem', r)) : W p l e (rmx 2 44) s m args below meth c H locs 0 0 (EndI D ca ad layM mem' r below args s) (F0 m 123 ls [.int s3, .int s2, .ref (ad 0), .int s0]) := by
  unfold fX9_fence_b123 at h
  obtain ⟨m2, r1, hr1, h⟩ := bw_some h
  refine r_cVi (As := [.int s2, .int s3]) (rest := [.int s0]) X w lyM_0 rfl (kX9_goes  l D ca ad mem s2 s3  hr1) (gTV tw_1134 tw_1136 tw_48 tw_75 tw_1137) hdX9_goes (by decide) rfl hl.1 rfl (Nat.le_of_ble_eq_true rfl) dX9_fence_123 ⟨Nat.zero_le _, Nat.zero_le _⟩ (fun H locs w => ?_)
  refine lv_iadd X.1 X.2.1 dX9_fence_126 ?_
  obtain ⟨x_3, ex_3, h⟩ := lk_some h
  refine lv_name ex_3 ?_
  refine lv_istore (lv' := [(4, .int x_3), (0, .ref (ad 0)), (1, .int x1), (3, .int x3), (5, .int x5), (7, .int x7)]) X.1 X.2.1 dX9_fence_127 hl (by decide) rfl (fun ls hl => ?_)
  refine lv_iload X.1 X.2.1 dX9_fence_129 (lv_at hl 0 rfl) ?_
  refine lv_aload_n X.1 X.2.1 dX9_fence_131 rfl (lv_at hl 1 rfl) ?_
  refine lv_iload X.1 X.2.1 dX9_fence_132 (lv_at hl 5 rfl) ?_
  refine lv_aload_n X.1 X.2.1 dX9_fence_134 rfl (lv_at hl 1 rfl) ?_
  refine lv_iload X.1 X.2.1 dX9_fence_135 (lv_at hl 5 rfl) ?_
  refine lv_iload_n X.1 X.2.1 dX9_fence_137 rfl (lv_at hl 2 rfl) ?_
  obtain ⟨r4, hr4, h⟩ := bd_some h
  refine r_cVi (As := [.int x7, .int x1]) (rest := [.int x7, .ref (ad 0), .int x_3]) X w lyM_0 rfl (kX9_isUnder  l D ca ad m2 x7 x1  hr4) (gTV tw_1058 tw_1060 tw_38 tw_75 tw_1061) hdX9_isUnder (by decide) rfl hl.1 rfl (Nat.le_of_ble_eq_true rfl) dX9_fence_138 ⟨Nat.zero_le _, Nat.zero_le _⟩ (fun H locs w => ?_)
  refine lv_if_eq (tgt := 159) X.1 X.2.1 dX9_fence_141 (by decide) (fun c5 => ?_) (fun c5 => ?_)
  · rw [if_pos c5] at h
    refine lv_iconst (v := (0 : Int32)) X.1 X.2.1 dX9_fence_159 (by decide) ?_
    obtain ⟨m7, r6, hr6, h⟩ := bw_some h
    refine r_cVi (As := [.int x7, .int (0 : Int32)]) (rest := [.int x_3]) X w lyM_0 rfl (kX9_goes  l D ca ad m2 x7 (0 : Int32)  hr6) (gTV tw_1134 tw_1136 tw_48 tw_75 tw_1137) hdX9_goes (by decide) rfl hl.1 rfl (Nat.le_of_ble_eq_true rfl) dX9_fence_160 ⟨Nat.zero_le _, Nat.zero_le _⟩ (fun H locs w => ?_)
    refine lv_iadd X.1 X.2.1 dX9_fence_163 ?_
    obtain ⟨x_8, ex_8, h⟩ := lk_some h
    refine lv_name ex_8 ?_
    refine lv_istore (lv' := [(4, .int x_8), (0, .ref (ad 0)), (1, .int x1), (3, .int x3), (5, .int x5), (7, .int x7)]) X.1 X.2.1 dX9_fence_164 hl (by decide) rfl (fun ls hl => ?_)
    refine lv_iinc (v := (x5 + (1 : Int32))) (lv' := [(5, .int (x5 + (1 : Int32))), (4, .int x_8), (0, .ref (ad 0)), (1, .int x1), (3, .int x3), (7, .int x7)]) X.1 X.2.1 dX9_fence_166 hl (k := 4) rfl rfl (by decide) rfl (fun ls hl => ?_)
    refine lv_goto (tgt := 54) X.1 X.2.1 dX9_fence_169 (by decide) ?_
    exact hk54 _ _ _ _ _ H locs ls w (lv_sub hl [2, 3, 4, 1, 0] rfl) h
  · rw [if_neg c5] at h
    refine lv_aload_n X.1 X.2.1 dX9_fence_144 rfl (lv_at hl 1 rfl) ?_
    refine r_getr (b2 := 1) X w lyM_0 rfl inT9 1 rfl rfl (by decide) rfl tw_903 dX9_fence_145 ?_
    refine lv_iload X.1 X.2.1 dX9_fence_148 (lv_at hl 5 rfl) ?_
    obtain ⟨hi9, h⟩ := gd_some h
    refine r_iald X w lyM_1 hi9 dX9_fence_150 ?_
    refine lv_iload_n X.1 X.2.1 dX9_fence_151 rfl (lv_at hl 3 rfl) ?_
    refine lv_icmp_ne (tgt := 159) X.1 X.2.1 dX9_fence_152 (by decide) (fun c10 => ?_) (fun c10 => ?_)
    · rw [if_neg c10] at h
      refine lv_iconst (v := (0 : Int32)) X.1 X.2.1 dX9_fence_159 (by decide) ?_
      obtain ⟨m12, r11, hr11, h⟩ := bw_some h
      refine r_cVi (As := [.int x7, .int (0 : Int32)]) (rest := [.int x_3]) X w lyM_0 rfl (kX9_goes  l D ca ad m2 x7 (0 : Int32)  hr11) (gTV tw_1134 tw_1136 tw_48 tw_75 tw_1137) hdX9_goes (by decide) rfl hl.1 rfl (Nat.le_of_ble_eq_true rfl) dX9_fence_160 ⟨Nat.zero_le _, Nat.zero_le _⟩ (fun H locs w => ?_)
      refine lv_iadd X.1 X.2.1 dX9_fence_163 ?_
      obtain ⟨x_13, ex_13, h⟩ := lk_some h
      refine lv_name ex_13 ?_
      refine lv_istore (lv' := [(4, .int x_13), (0, .ref (ad 0)), (1, .int x1), (3, .int x3), (5, .int x5), (7, .int x7)]) X.1 X.2.1 dX9_fence_164 hl (by decide) rfl (fun ls hl => ?_)
      refine lv_iinc (v := (x5 + (1 : Int32))) (lv' := [(5, .int (x5 + (1 : Int32))), (4, .int x_13), (0, .ref (ad 0)), (1, .int x1), (3, .int x3), (7, .int x7)]) X.1 X.2.1 dX9_fence_166 hl (k := 4) rfl rfl (by decide) rfl (fun ls hl => ?_)
      refine lv_goto (tgt := 54) X.1 X.2.1 dX9_fence_169 (by decide) ?_
      exact hk54 _ _ _ _ _ H locs ls w (lv_sub hl [2, 3, 4, 1, 0] rfl) h
    · rw [if_pos c10] at h
      refine lv_iconst (v := (1 : Int32)) X.1 X.2.1 dX9_fence_155 (by decide) ?_
      refine lv_goto (tgt := 160) X.1 X.2.1 dX9_fence_156 (by decide) ?_
      obtain ⟨m15, r14, hr14, h⟩ := bw_some h
      refine r_cVi (As := [.int x7, .int (1 : Int32)]) (rest := [.int x_3]) X w lyM_0 rfl (kX9_goes  l D ca ad m2 x7 (1 : Int32)  hr14) (gTV tw_1134 tw_1136 tw_48 tw_75 tw_1137) hdX9_goes (by decide) rfl hl.1 rfl (Nat.le_of_ble_eq_true rfl) dX9_fence_160 ⟨Nat.zero_le _, Nat.zero_le _⟩ (fun H locs w => ?_)
      refine lv_iadd X.1 X.2.1 dX9_fence_163 ?_
      obtain ⟨x_16, ex_16, h⟩ := lk_some h
      refine lv_name ex_16 ?_
      refine lv_istore (lv' := [(4, .int x_16), (0, .ref (ad 0)), (1, .int x1), (3, .int x3), (5, .int x5), (7, .int x7)]) X.1 X.2.1 dX9_fence_164 hl (by decide) rfl (fun ls hl => ?_)
      refine lv_iinc (v := (x5 + (1 : Int32))) (lv' := [(5, .int (x5 + (1 : Int32))), (4, .int x_16), (0, .ref (ad 0)), (1, .int x1), (3, .int x3), (7, .int x7)]) X.1 X.2.1 dX9_fence_166 hl (k := 4) rfl rfl (by decide) rfl (fun ls hl => ?_)
      refine lv_goto (tgt := 54) X.1 X.2.1 dX9_fence_169 (by decide) ?_
      exact hk54 _ _ _ _ _ H locs ls w (lv_sub hl [2, 3, 4, 1, 0] rfl) h
def fX9_fence_b54_s  (k54 : Mm → Int32 → Int32 → Int32 → Int32 → Option (Mm × Int32)) (mem : Mm) (x1 : Int32) (x3 : Int32) (x4 : Int32) (x5 : Int32) : Option (Mm × Int32) :=
  if (6 : Int32) ≤ x5 then fX9_fence_b175 2000 mem x1 x3 x4 (0 : Int32) else lk ((192 : Int32) + ((7 : Int32) * x5)) (fun x_2 => lk ((234 : Int32) + ((7 : Int32) * x5)) (fun x_3 => bd (fX9_isUnder mem x_2 x1) (fun r4 => if r4 = 0 then fX9_fence_b123 k54 mem x1 x3 x5 x_3 x4 x_2 (0 : Int32) else gd x_2 345 (if (mem 1 x_2.toNatClampNeg) = x3 then fX9_fence_b123 k54 mem x1 x3 x5 x_3 x4 x_2 (1 : Int32) else bd (fX9_isGlobal mem x_2) (fun r8 => if r8 = 0 then fX9_fence_b123 k54 mem x1 x3 x5 x_3 x4 x_2 (0 : Int32) else fX9_fence_b123 k54 mem x1 x3 x5 x_3 x4 x_2 (1 : Int32))))))
def fX9_fence_b54  : Nat → Mm → Int32 → Int32 → Int32 → Int32 → Option (Mm × Int32)
  | 0 => fun _ _ _ _ _ => none
  | n + 1 => fX9_fence_b54_s  (fX9_fence_b54  n)
set_option maxRecDepth 100000 in
set_option maxHeartbeats 4000000 in
theorem wX9_fence_b54_s {p : Program} {l : Launch} {e : Env} {s : State} {m : MethodId} {args : Array Value} {below : List Frame} {meth : Method} {c : Code} {D : va_G} {ca : Nat → ClassId} {ad : Nat → Nat} {H : Heap} {locs : List Loc} {ls : Array Slot} {mem : Mm} {x1 : Int32} {x3 : Int32} {x4 : Int32} {x5 : Int32}  {k54 : Mm → Int32 → Int32 → Int32 → Int32 → Option (Mm × Int32)} {mem' : Mm} {r : Int32} (X : CallFix p m c cX9_fence 8 s args TT RX9) (M : Mt meth (some .int))  (hk54 : ∀ (mem : Mm) (x1 : Int32) (x3 : Int32) (x4 : Int32) (x5 : Int32) (H : Heap) (locs : List Loc) (ls : Array Slot) , Wd D ca ad layM (AA ad layM.length) s.heap s mem H locs → lv_has ls 8 [(0, .ref (ad 0)), (1, .int x1), (3, .int x3), (4, .int x4), (5, .int x5)] → k54 mem x1 x3 x4 x5 = some (mem', r) → W p l e (rmx 2 44) s m args below meth c H locs 0 0 (EndI D ca ad layM mem' r below args s) (F0 m 54 ls []))  (w : Wd D ca ad layM (AA ad layM.length) s.heap s mem H locs) (hl : lv_has ls 8 [(0, .ref (ad 0)), (1, .int x1), (3, .int x3), (4, .int x4), (5, .int x5)]) (h : fX9_fence_b54_s  k54 mem x1 x3 x4 x5 = some (mem', r)) : W p l e (rmx 2 44) s m args below meth c H locs 0 0 (EndI D ca ad layM mem' r below args s) (F0 m 54 ls []) := by
  unfold fX9_fence_b54_s at h
  refine lv_iload X.1 X.2.1 dX9_fence_54 (lv_at hl 4 rfl) ?_
  refine lv_bipush (v := (6 : Int32)) X.1 X.2.1 dX9_fence_56 (by decide) ?_
  refine lv_icmp_ge (tgt := 172) X.1 X.2.1 dX9_fence_58 (by decide) (fun c1 => ?_) (fun c1 => ?_)
  · rw [if_pos c1] at h
    refine lv_iconst (v := (0 : Int32)) X.1 X.2.1 dX9_fence_172 (by decide) ?_
    refine lv_istore (lv' := [(5, .int (0 : Int32)), (0, .ref (ad 0)), (1, .int x1), (3, .int x3), (4, .int x4)]) X.1 X.2.1 dX9_fence_173 hl (by decide) rfl (fun ls hl => ?_)
    exact wX9_fence_b175 X M _ _ _ _ _ _ H locs ls w (lv_sub hl [1, 2, 3, 4, 0] rfl) h
  · rw [if_neg c1] at h
    refine lv_sipush (v := (192 : Int32)) X.1 X.2.1 dX9_fence_61 (by decide) ?_
    refine lv_bipush (v := (7 : Int32)) X.1 X.2.1 dX9_fence_64 (by decide) ?_
    refine lv_iload X.1 X.2.1 dX9_fence_66 (lv_at hl 4 rfl) ?_
    refine lv_imul X.1 X.2.1 dX9_fence_68 ?_
    refine lv_iadd X.1 X.2.1 dX9_fence_69 ?_
    obtain ⟨x_2, ex_2, h⟩ := lk_some h
    refine lv_name ex_2 ?_
    refine lv_istore (lv' := [(6, .int x_2), (0, .ref (ad 0)), (1, .int x1), (3, .int x3), (4, .int x4), (5, .int x5)]) X.1 X.2.1 dX9_fence_70 hl (by decide) rfl (fun ls hl => ?_)
    refine lv_sipush (v := (234 : Int32)) X.1 X.2.1 dX9_fence_72 (by decide) ?_
    refine lv_bipush (v := (7 : Int32)) X.1 X.2.1 dX9_fence_75 (by decide) ?_
    refine lv_iload X.1 X.2.1 dX9_fence_77 (lv_at hl 5 rfl) ?_
    refine lv_imul X.1 X.2.1 dX9_fence_79 ?_
    refine lv_iadd X.1 X.2.1 dX9_fence_80 ?_
    obtain ⟨x_3, ex_3, h⟩ := lk_some h
    refine lv_name ex_3 ?_
    refine lv_istore (lv' := [(7, .int x_3), (6, .int x_2), (0, .ref (ad 0)), (1, .int x1), (3, .int x3), (4, .int x4), (5, .int x5)]) X.1 X.2.1 dX9_fence_81 hl (by decide) rfl (fun ls hl => ?_)
    refine lv_iload X.1 X.2.1 dX9_fence_83 (lv_at hl 5 rfl) ?_
    refine lv_aload_n X.1 X.2.1 dX9_fence_85 rfl (lv_at hl 2 rfl) ?_
    refine lv_iload X.1 X.2.1 dX9_fence_86 (lv_at hl 1 rfl) ?_
    refine lv_aload_n X.1 X.2.1 dX9_fence_88 rfl (lv_at hl 2 rfl) ?_
    refine lv_iload X.1 X.2.1 dX9_fence_89 (lv_at hl 1 rfl) ?_
    refine lv_iload_n X.1 X.2.1 dX9_fence_91 rfl (lv_at hl 3 rfl) ?_
    obtain ⟨r4, hr4, h⟩ := bd_some h
    refine r_cVi (As := [.int x_2, .int x1]) (rest := [.int x_2, .ref (ad 0), .int x4]) X w lyM_0 rfl (kX9_isUnder  l D ca ad mem x_2 x1  hr4) (gTV tw_1058 tw_1060 tw_38 tw_75 tw_1061) hdX9_isUnder (by decide) rfl hl.1 rfl (Nat.le_of_ble_eq_true rfl) dX9_fence_92 ⟨Nat.zero_le _, Nat.zero_le _⟩ (fun H locs w => ?_)
    refine lv_if_eq (tgt := 122) X.1 X.2.1 dX9_fence_95 (by decide) (fun c5 => ?_) (fun c5 => ?_)
    · rw [if_pos c5] at h
      refine lv_iconst (v := (0 : Int32)) X.1 X.2.1 dX9_fence_122 (by decide) ?_
      exact wX9_fence_b123 X M hk54 w (lv_sub hl [2, 3, 4, 6, 0] rfl) h
    · rw [if_neg c5] at h
      refine lv_aload_n X.1 X.2.1 dX9_fence_98 rfl (lv_at hl 2 rfl) ?_
      refine r_getr (b2 := 1) X w lyM_0 rfl inT9 1 rfl rfl (by decide) rfl tw_903 dX9_fence_99 ?_
      refine lv_iload X.1 X.2.1 dX9_fence_102 (lv_at hl 1 rfl) ?_
      obtain ⟨hi6, h⟩ := gd_some h
      refine r_iald X w lyM_1 hi6 dX9_fence_104 ?_
      refine lv_iload_n X.1 X.2.1 dX9_fence_105 rfl (lv_at hl 4 rfl) ?_
      refine lv_icmp_eq (tgt := 118) X.1 X.2.1 dX9_fence_106 (by decide) (fun c7 => ?_) (fun c7 => ?_)
      · rw [if_pos c7] at h
        refine lv_iconst (v := (1 : Int32)) X.1 X.2.1 dX9_fence_118 (by decide) ?_
        refine lv_goto (tgt := 123) X.1 X.2.1 dX9_fence_119 (by decide) ?_
        exact wX9_fence_b123 X M hk54 w (lv_sub hl [2, 3, 4, 6, 0] rfl) h
      · rw [if_neg c7] at h
        refine lv_aload_n X.1 X.2.1 dX9_fence_109 rfl (lv_at hl 2 rfl) ?_
        refine lv_iload X.1 X.2.1 dX9_fence_110 (lv_at hl 1 rfl) ?_
        obtain ⟨r8, hr8, h⟩ := bd_some h
        refine r_cVi (As := [.int x_2]) (rest := [.int x_2, .ref (ad 0), .int x4]) X w lyM_0 rfl (kX9_isGlobal  l D ca ad mem x_2  hr8) (gTV tw_1130 tw_1132 tw_47 tw_75 tw_1133) hdX9_isGlobal (by decide) rfl hl.1 rfl (Nat.le_of_ble_eq_true rfl) dX9_fence_112 ⟨Nat.zero_le _, Nat.zero_le _⟩ (fun H locs w => ?_)
        refine lv_if_eq (tgt := 122) X.1 X.2.1 dX9_fence_115 (by decide) (fun c9 => ?_) (fun c9 => ?_)
        · rw [if_pos c9] at h
          refine lv_iconst (v := (0 : Int32)) X.1 X.2.1 dX9_fence_122 (by decide) ?_
          exact wX9_fence_b123 X M hk54 w (lv_sub hl [2, 3, 4, 6, 0] rfl) h
        · rw [if_neg c9] at h
          refine lv_iconst (v := (1 : Int32)) X.1 X.2.1 dX9_fence_118 (by decide) ?_
          refine lv_goto (tgt := 123) X.1 X.2.1 dX9_fence_119 (by decide) ?_
          exact wX9_fence_b123 X M hk54 w (lv_sub hl [2, 3, 4, 6, 0] rfl) h
set_option maxRecDepth 100000 in
set_option maxHeartbeats 4000000 in
theorem wX9_fence_b54 {p : Program} {l : Launch} {e : Env} {s : State} {m : MethodId} {args : Array Value} {below : List Frame} {meth : Method} {c : Code} {D : va_G} {ca : Nat → ClassId} {ad : Nat → Nat}  {mem' : Mm} {r : Int32} (X : CallFix p m c cX9_fence 8 s args TT RX9) (M : Mt meth (some .int))  : ∀ (n : Nat) (mem : Mm) (x1 : Int32) (x3 : Int32) (x4 : Int32) (x5 : Int32) (H : Heap) (locs : List Loc) (ls : Array Slot)  (_ : Wd D ca ad layM (AA ad layM.length) s.heap s mem H locs) (_ : lv_has ls 8 [(0, .ref (ad 0)), (1, .int x1), (3, .int x3), (4, .int x4), (5, .int x5)]) (_ : fX9_fence_b54  n mem x1 x3 x4 x5 = some (mem', r)), W p l e (rmx 2 44) s m args below meth c H locs 0 0 (EndI D ca ad layM mem' r below args s) (F0 m 54 ls []) := by
  intro n
  induction n with
  | zero => intro mem x1 x3 x4 x5 H locs ls  w hl h; exact (nofun : (none : Option (Mm × Int32)) = _ → _) h
  | succ n ih => intro mem x1 x3 x4 x5 H locs ls  w hl h; exact wX9_fence_b54_s X M  ih  w hl h
def fX9_fence (mem : Mm) (a1 : Int32) (a2 : Int32) : Option (Mm × Int32) :=
  wk mem 0 0 (0 : Int32) (fun m1 => if (fX9_isAddress a1) = 0 then some (m1, (-1 : Int32)) else if (fX9_isSpace a2) = 0 then some (m1, (-1 : Int32)) else gd (((512 : Int32) * a2) + a1) 3072 (wk m1 7 (((512 : Int32) * a2) + a1).toNatClampNeg (m1 0 7) (fun m5 => gd ((332 : Int32) + a2) 345 (lk (m5 1 ((332 : Int32) + a2).toNatClampNeg) (fun x_7 => fX9_fence_b54 2000 m5 a1 x_7 (0 : Int32) (0 : Int32))))))
set_option maxRecDepth 100000 in
set_option maxHeartbeats 4000000 in
theorem kX9_fence (l : Launch) (D : va_G) (ca : Nat → ClassId) (ad : Nat → Nat) (mem : Mm) (a1 : Int32) (a2 : Int32)  {mem' : Mm} {r : Int32} (h : fX9_fence mem a1 a2 = some (mem', r)) : CtI l yX9_fence cX9_fence 8 (some .int) (rmx 2 44) D ca ad layM mem [.ref (ad 0), .int a1, .int a2] mem' r := by
  refine CtI.of (by decide) (Nat.le_of_ble_eq_true rfl) ?_
  intro p e s m args below meth c H locs ls X M w hl
  replace X : CallFix p m c cX9_fence 8 s args TT RX9 := X
  replace hl : lv_has ls 8 [(0, .ref (ad 0)), (1, .int a1), (2, .int a2)] := hl
  unfold fX9_fence at h
  refine lv_aload_n X.1 X.2.1 dX9_fence_0 rfl (lv_at hl 0 rfl) ?_
  refine lv_iconst (v := (0 : Int32)) X.1 X.2.1 dX9_fence_1 (by decide) ?_
  refine r_put X w lyM_0 rfl inT9 tyX9 tyX9_ok nmX9 0 rfl (by decide) rfl rfl tw_902 rfl rfl dX9_fence_2 (fun H locs w => ?_)
  obtain ⟨m1, em1, h⟩ := wk_some h
  rw [em1] at w
  refine lv_iload_n X.1 X.2.1 dX9_fence_5 rfl (lv_at hl 1 rfl) ?_
  refine r_cSi (As := [.int a1]) (rest := []) X w (kX9_isAddress  l D ca ad m1 a1  rfl) (gTS tw_1043 tw_1044 tw_75 tw_1045) hdX9_isAddress (by decide) rfl hl.1 rfl (Nat.le_of_ble_eq_true rfl) dX9_fence_6 ⟨Nat.zero_le _, Nat.zero_le _⟩ (fun H locs w => ?_)
  refine lv_if_eq (tgt := 19) X.1 X.2.1 dX9_fence_9 (by decide) (fun c2 => ?_) (fun c2 => ?_)
  · rw [if_pos c2] at h
    refine lv_iconst (v := (-1 : Int32)) X.1 X.2.1 dX9_fence_19 (by decide) ?_
    obtain ⟨rfl, rfl⟩ := Prod.mk.inj (Option.some.inj h)
    exact r_iret X M w dX9_fence_20
  · rw [if_neg c2] at h
    refine lv_iload_n X.1 X.2.1 dX9_fence_12 rfl (lv_at hl 2 rfl) ?_
    refine r_cSi (As := [.int a2]) (rest := []) X w (kX9_isSpace  l D ca ad m1 a2  rfl) (gTS tw_1004 tw_1005 tw_75 tw_1006) hdX9_isSpace (by decide) rfl hl.1 rfl (Nat.le_of_ble_eq_true rfl) dX9_fence_13 ⟨Nat.zero_le _, Nat.zero_le _⟩ (fun H locs w => ?_)
    refine lv_if_ne (tgt := 21) X.1 X.2.1 dX9_fence_16 (by decide) (fun c3 => ?_) (fun c3 => ?_)
    · rw [if_neg c3] at h
      refine lv_aload_n X.1 X.2.1 dX9_fence_21 rfl (lv_at hl 0 rfl) ?_
      refine r_getr (b2 := 7) X w lyM_0 rfl inT9 10 rfl rfl (by decide) rfl tw_912 dX9_fence_22 ?_
      refine lv_sipush (v := (512 : Int32)) X.1 X.2.1 dX9_fence_25 (by decide) ?_
      refine lv_iload_n X.1 X.2.1 dX9_fence_28 rfl (lv_at hl 2 rfl) ?_
      refine lv_imul X.1 X.2.1 dX9_fence_29 ?_
      refine lv_iload_n X.1 X.2.1 dX9_fence_30 rfl (lv_at hl 1 rfl) ?_
      refine lv_iadd X.1 X.2.1 dX9_fence_31 ?_
      refine lv_aload_n X.1 X.2.1 dX9_fence_32 rfl (lv_at hl 0 rfl) ?_
      refine r_get X w lyM_0 rfl inT9 7 rfl (by decide) rfl tw_909 dX9_fence_33 ?_
      obtain ⟨hi4, h⟩ := gd_some h
      refine r_iast X w lyM_7 hi4 dX9_fence_36 (fun H locs w => ?_)
      obtain ⟨m5, em5, h⟩ := wk_some h
      rw [em5] at w
      refine lv_aload_n X.1 X.2.1 dX9_fence_37 rfl (lv_at hl 0 rfl) ?_
      refine r_getr (b2 := 1) X w lyM_0 rfl inT9 1 rfl rfl (by decide) rfl tw_903 dX9_fence_38 ?_
      refine lv_sipush (v := (332 : Int32)) X.1 X.2.1 dX9_fence_41 (by decide) ?_
      refine lv_iload_n X.1 X.2.1 dX9_fence_44 rfl (lv_at hl 2 rfl) ?_
      refine lv_iadd X.1 X.2.1 dX9_fence_45 ?_
      obtain ⟨hi6, h⟩ := gd_some h
      refine r_iald X w lyM_1 hi6 dX9_fence_46 ?_
      obtain ⟨x_7, ex_7, h⟩ := lk_some h
      refine lv_name ex_7 ?_
      refine lv_istore_n (lv' := [(3, .int x_7), (0, .ref (ad 0)), (1, .int a1), (2, .int a2)]) X.1 X.2.1 dX9_fence_47 rfl hl (by decide) rfl (fun ls hl => ?_)
      refine lv_iconst (v := (0 : Int32)) X.1 X.2.1 dX9_fence_48 (by decide) ?_
      refine lv_istore (lv' := [(4, .int (0 : Int32)), (3, .int x_7), (0, .ref (ad 0)), (1, .int a1), (2, .int a2)]) X.1 X.2.1 dX9_fence_49 hl (by decide) rfl (fun ls hl => ?_)
      refine lv_iconst (v := (0 : Int32)) X.1 X.2.1 dX9_fence_51 (by decide) ?_
      refine lv_istore (lv' := [(5, .int (0 : Int32)), (4, .int (0 : Int32)), (3, .int x_7), (0, .ref (ad 0)), (1, .int a1), (2, .int a2)]) X.1 X.2.1 dX9_fence_52 hl (by decide) rfl (fun ls hl => ?_)
      exact wX9_fence_b54 X M _ _ _ _ _ _ H locs ls w (lv_sub hl [3, 4, 2, 1, 0] rfl) h
    · rw [if_pos c3] at h
      refine lv_iconst (v := (-1 : Int32)) X.1 X.2.1 dX9_fence_19 (by decide) ?_
      obtain ⟨rfl, rfl⟩ := Prod.mk.inj (Option.some.inj h)
      exact r_iret X M w dX9_fence_20
/-! WalkHouseModel.fenceSpace(I)I (W) -/
theorem hdX9_fenceSpace : yX9_fenceSpace.cls = RX9 ∧ yX9_fenceSpace.cls ≠ "java/lang/invoke/MethodHandle" ∧ yX9_fenceSpace.cls ≠ "java/lang/invoke/VarHandle" ∧ (parseMethodDescriptor yX9_fenceSpace.desc).map (fun d => d.parameters.length) = some 1 := by decide +kernel
def fX9_fenceSpace_b137_s  (k137 : Mm → Int32 → Int32 → Int32 → Option (Mm × Int32)) (mem : Mm) (x2 : Int32) (x3 : Int32) (x4 : Int32) : Option (Mm × Int32) :=
  if (4 : Int32) ≤ x4 then some (mem, x3) else bd (fX9_isGoing mem x4) (fun r2 => if r2 = 0 then k137 mem x2 x3 (x4 + (1 : Int32)) else bd (fX9_walkerOf mem x4 (9 : Int32)) (fun r4 => if r4 = x2 then bw (fX9_aborts mem x4) (fun m7 r6 => k137 m7 x2 x3 (x4 + (1 : Int32))) else k137 mem x2 x3 (x4 + (1 : Int32))))
def fX9_fenceSpace_b137  : Nat → Mm → Int32 → Int32 → Int32 → Option (Mm × Int32)
  | 0 => fun _ _ _ _ => none
  | n + 1 => fX9_fenceSpace_b137_s  (fX9_fenceSpace_b137  n)
set_option maxRecDepth 100000 in
set_option maxHeartbeats 4000000 in
theorem wX9_fenceSpace_b137_s {p : Program} {l : Launch} {e : Env} {s : State} {m : MethodId} {args : Array Value} {below : List Frame} {meth : Method} {c : Code} {D : va_G} {ca : Nat → ClassId} {ad : Nat → Nat} {H : Heap} {locs : List Loc} {ls : Array Slot} {mem : Mm} {x2 : Int32} {x3 : Int32} {x4 : Int32}  {k137 : Mm → Int32 → Int32 → Int32 → Option (Mm × Int32)} {mem' : Mm} {r : Int32} (X : CallFix p m c cX9_fenceSpace 7 s args TT RX9) (M : Mt meth (some .int))  (hk137 : ∀ (mem : Mm) (x2 : Int32) (x3 : Int32) (x4 : Int32) (H : Heap) (locs : List Loc) (ls : Array Slot) , Wd D ca ad layM (AA ad layM.length) s.heap s mem H locs → lv_has ls 7 [(0, .ref (ad 0)), (2, .int x2), (3, .int x3), (4, .int x4)] → k137 mem x2 x3 x4 = some (mem', r) → W p l e (rmx 2 44) s m args below meth c H locs 0 0 (EndI D ca ad layM mem' r below args s) (F0 m 137 ls []))  (w : Wd D ca ad layM (AA ad layM.length) s.heap s mem H locs) (hl : lv_has ls 7 [(0, .ref (ad 0)), (2, .int x2), (3, .int x3), (4, .int x4)]) (h : fX9_fenceSpace_b137_s  k137 mem x2 x3 x4 = some (mem', r)) : W p l e (rmx 2 44) s m args below meth c H locs 0 0 (EndI D ca ad layM mem' r below args s) (F0 m 137 ls []) := by
  unfold fX9_fenceSpace_b137_s at h
  refine lv_iload X.1 X.2.1 dX9_fenceSpace_137 (lv_at hl 3 rfl) ?_
  refine lv_iconst (v := (4 : Int32)) X.1 X.2.1 dX9_fenceSpace_139 (by decide) ?_
  refine lv_icmp_ge (tgt := 176) X.1 X.2.1 dX9_fenceSpace_140 (by decide) (fun c1 => ?_) (fun c1 => ?_)
  · rw [if_pos c1] at h
    refine lv_iload_n X.1 X.2.1 dX9_fenceSpace_176 rfl (lv_at hl 2 rfl) ?_
    obtain ⟨rfl, rfl⟩ := Prod.mk.inj (Option.some.inj h)
    exact r_iret X M w dX9_fenceSpace_177
  · rw [if_neg c1] at h
    refine lv_aload_n X.1 X.2.1 dX9_fenceSpace_143 rfl (lv_at hl 0 rfl) ?_
    refine lv_iload X.1 X.2.1 dX9_fenceSpace_144 (lv_at hl 3 rfl) ?_
    obtain ⟨r2, hr2, h⟩ := bd_some h
    refine r_cVi (As := [.int x4]) (rest := []) X w lyM_0 rfl (kX9_isGoing  l D ca ad mem x4  hr2) (gTV tw_1023 tw_1025 tw_31 tw_75 tw_1026) hdX9_isGoing (by decide) rfl hl.1 rfl (Nat.le_of_ble_eq_true rfl) dX9_fenceSpace_146 ⟨Nat.zero_le _, Nat.zero_le _⟩ (fun H locs w => ?_)
    refine lv_if_eq (tgt := 170) X.1 X.2.1 dX9_fenceSpace_149 (by decide) (fun c3 => ?_) (fun c3 => ?_)
    · rw [if_pos c3] at h
      refine lv_iinc (v := (x4 + (1 : Int32))) (lv' := [(4, .int (x4 + (1 : Int32))), (0, .ref (ad 0)), (2, .int x2), (3, .int x3)]) X.1 X.2.1 dX9_fenceSpace_170 hl (k := 3) rfl rfl (by decide) rfl (fun ls hl => ?_)
      refine lv_goto (tgt := 137) X.1 X.2.1 dX9_fenceSpace_173 (by decide) ?_
      exact hk137 _ _ _ _ H locs ls w (lv_sub hl [1, 2, 3, 0] rfl) h
    · rw [if_neg c3] at h
      refine lv_aload_n X.1 X.2.1 dX9_fenceSpace_152 rfl (lv_at hl 0 rfl) ?_
      refine lv_iload X.1 X.2.1 dX9_fenceSpace_153 (lv_at hl 3 rfl) ?_
      refine lv_bipush (v := (9 : Int32)) X.1 X.2.1 dX9_fenceSpace_155 (by decide) ?_
      obtain ⟨r4, hr4, h⟩ := bd_some h
      refine r_cVi (As := [.int x4, .int (9 : Int32)]) (rest := []) X w lyM_0 rfl (kX9_walkerOf  l D ca ad mem x4 (9 : Int32)  hr4) (gTV tw_1027 tw_1029 tw_32 tw_75 tw_1030) hdX9_walkerOf (by decide) rfl hl.1 rfl (Nat.le_of_ble_eq_true rfl) dX9_fenceSpace_157 ⟨Nat.zero_le _, Nat.zero_le _⟩ (fun H locs w => ?_)
      refine lv_iload_n X.1 X.2.1 dX9_fenceSpace_160 rfl (lv_at hl 1 rfl) ?_
      refine lv_icmp_ne (tgt := 170) X.1 X.2.1 dX9_fenceSpace_161 (by decide) (fun c5 => ?_) (fun c5 => ?_)
      · rw [if_neg c5] at h
        refine lv_iinc (v := (x4 + (1 : Int32))) (lv' := [(4, .int (x4 + (1 : Int32))), (0, .ref (ad 0)), (2, .int x2), (3, .int x3)]) X.1 X.2.1 dX9_fenceSpace_170 hl (k := 3) rfl rfl (by decide) rfl (fun ls hl => ?_)
        refine lv_goto (tgt := 137) X.1 X.2.1 dX9_fenceSpace_173 (by decide) ?_
        exact hk137 _ _ _ _ H locs ls w (lv_sub hl [1, 2, 3, 0] rfl) h
      · rw [if_pos c5] at h
        refine lv_aload_n X.1 X.2.1 dX9_fenceSpace_164 rfl (lv_at hl 0 rfl) ?_
        refine lv_iload X.1 X.2.1 dX9_fenceSpace_165 (lv_at hl 3 rfl) ?_
        obtain ⟨m7, r6, hr6, h⟩ := bw_some h
        refine r_cVv (As := [.int x4]) (rest := []) X w lyM_0 rfl (kX9_aborts  l D ca ad mem x4  hr6) (gTV tw_1031 tw_1033 tw_33 tw_75 tw_1034) hdX9_aborts (by decide) rfl hl.1 rfl (Nat.le_of_ble_eq_true rfl) dX9_fenceSpace_167 ⟨Nat.zero_le _, Nat.zero_le _⟩ (fun H locs w => ?_)
        refine lv_iinc (v := (x4 + (1 : Int32))) (lv' := [(4, .int (x4 + (1 : Int32))), (0, .ref (ad 0)), (2, .int x2), (3, .int x3)]) X.1 X.2.1 dX9_fenceSpace_170 hl (k := 3) rfl rfl (by decide) rfl (fun ls hl => ?_)
        refine lv_goto (tgt := 137) X.1 X.2.1 dX9_fenceSpace_173 (by decide) ?_
        exact hk137 _ _ _ _ H locs ls w (lv_sub hl [1, 2, 3, 0] rfl) h
set_option maxRecDepth 100000 in
set_option maxHeartbeats 4000000 in
theorem wX9_fenceSpace_b137 {p : Program} {l : Launch} {e : Env} {s : State} {m : MethodId} {args : Array Value} {below : List Frame} {meth : Method} {c : Code} {D : va_G} {ca : Nat → ClassId} {ad : Nat → Nat}  {mem' : Mm} {r : Int32} (X : CallFix p m c cX9_fenceSpace 7 s args TT RX9) (M : Mt meth (some .int))  : ∀ (n : Nat) (mem : Mm) (x2 : Int32) (x3 : Int32) (x4 : Int32) (H : Heap) (locs : List Loc) (ls : Array Slot)  (_ : Wd D ca ad layM (AA ad layM.length) s.heap s mem H locs) (_ : lv_has ls 7 [(0, .ref (ad 0)), (2, .int x2), (3, .int x3), (4, .int x4)]) (_ : fX9_fenceSpace_b137  n mem x2 x3 x4 = some (mem', r)), W p l e (rmx 2 44) s m args below meth c H locs 0 0 (EndI D ca ad layM mem' r below args s) (F0 m 137 ls []) := by
  intro n
  induction n with
  | zero => intro mem x2 x3 x4 H locs ls  w hl h; exact (nofun : (none : Option (Mm × Int32)) = _ → _) h
  | succ n ih => intro mem x2 x3 x4 H locs ls  w hl h; exact wX9_fenceSpace_b137_s X M  ih  w hl h
def fX9_fenceSpace_b98 (k40 : Mm → Int32 → Int32 → Int32 → Option (Mm × Int32)) (mem : Mm) (x2 : Int32) (x4 : Int32) (x6 : Int32) (s0 : Int32) (s2 : Int32) (s3 : Int32) : Option (Mm × Int32) :=
  bw (fX9_goes mem s2 s3) (fun m2 r1 => lk (s0 + r1) (fun x_3 => gd x6 345 (if (m2 1 x6.toNatClampNeg) = x2 then bw (fX9_goes m2 x6 (1 : Int32)) (fun m10 r9 => lk (x_3 + r9) (fun x_11 => k40 m10 x2 x_11 (x4 + (1 : Int32)))) else bw (fX9_goes m2 x6 (0 : Int32)) (fun m7 r6 => lk (x_3 + r6) (fun x_8 => k40 m7 x2 x_8 (x4 + (1 : Int32)))))))
set_option maxRecDepth 100000 in
set_option maxHeartbeats 4000000 in
theorem wX9_fenceSpace_b98 {p : Program} {l : Launch} {e : Env} {s : State} {m : MethodId} {args : Array Value} {below : List Frame} {meth : Method} {c : Code} {D : va_G} {ca : Nat → ClassId} {ad : Nat → Nat} {H : Heap} {locs : List Loc} {ls : Array Slot} {mem : Mm} {x2 : Int32} {x4 : Int32} {x6 : Int32} {s0 : Int32} {s2 : Int32} {s3 : Int32} {k40 : Mm → Int32 → Int32 → Int32 → Option (Mm × Int32)} {mem' : Mm} {r : Int32} (X : CallFix p m c cX9_fenceSpace 7 s args TT RX9) (M : Mt meth (some .int)) (hk40 : ∀ (mem : Mm) (x2 : Int32) (x3 : Int32) (x4 : Int32) (H : Heap) (locs : List Loc) (ls : Array Slot) , Wd D ca ad layM (AA ad layM.length) s.heap s mem H locs → lv_has ls 7 [(0, .ref (ad 0)), (2, .int x2), (3, .int x3), (4, .int x4)] → k40 mem x2 x3 x4 = some (mem', r) → W p l e (rmx 2 44) s m args below meth c H locs 0 0 (EndI D ca ad layM mem' r below args s) (F0 m 40 ls []))  (w : Wd D ca ad layM (AA ad layM.length) s.heap s mem H locs) (hl : lv_has ls 7 [(0, .ref (ad 0)), (2, .int x2), (4, .int x4), (6, .int x6)]) (h : fX9_fenceSpace_b98 k40 mem x2 x4 x6 s0 s2 s3 = some (mem', r)) : W p l e (rmx 2 44) s m args below meth c H locs 0 0 (EndI D ca ad layM mem' r below args s) (F0 m 98 ls [.int s3, .int s2, .ref (ad 0), .int s0]) := by
  unfold fX9_fenceSpace_b98 at h
  obtain ⟨m2, r1, hr1, h⟩ := bw_some h
  refine r_cVi (As := [.int s2, .int s3]) (rest := [.int s0]) X w lyM_0 rfl (kX9_goes  l D ca ad mem s2 s3  hr1) (gTV tw_1134 tw_1136 tw_48 tw_75 tw_1137) hdX9_goes (by decide) rfl hl.1 rfl (Nat.le_of_ble_eq_true rfl) dX9_fenceSpace_98 ⟨Nat.zero_le _, Nat.zero_le _⟩ (fun H locs w => ?_)
  refine lv_iadd X.1 X.2.1 dX9_fenceSpace_101 ?_
  obtain ⟨x_3, ex_3, h⟩ := lk_some h
  refine lv_name ex_3 ?_
  refine lv_istore_n (lv' := [(3, .int x_3), (0, .ref (ad 0)), (2, .int x2), (4, .int x4), (6, .int x6)]) X.1 X.2.1 dX9_fenceSpace_102 rfl hl (by decide) rfl (fun ls hl => ?_)
  refine lv_iload_n X.1 X.2.1 dX9_fenceSpace_103 rfl (lv_at hl 0 rfl) ?_
  refine lv_aload_n X.1 X.2.1 dX9_fenceSpace_104 rfl (lv_at hl 1 rfl) ?_
  refine lv_iload X.1 X.2.1 dX9_fenceSpace_105 (lv_at hl 4 rfl) ?_
  refine lv_aload_n X.1 X.2.1 dX9_fenceSpace_107 rfl (lv_at hl 1 rfl) ?_
  refine r_getr (b2 := 1) X w lyM_0 rfl inT9 1 rfl rfl (by decide) rfl tw_903 dX9_fenceSpace_108 ?_
  refine lv_iload X.1 X.2.1 dX9_fenceSpace_111 (lv_at hl 4 rfl) ?_
  obtain ⟨hi4, h⟩ := gd_some h
  refine r_iald X w lyM_1 hi4 dX9_fenceSpace_113 ?_
  refine lv_iload_n X.1 X.2.1 dX9_fenceSpace_114 rfl (lv_at hl 2 rfl) ?_
  refine lv_icmp_ne (tgt := 122) X.1 X.2.1 dX9_fenceSpace_115 (by decide) (fun c5 => ?_) (fun c5 => ?_)
  · rw [if_neg c5] at h
    refine lv_iconst (v := (0 : Int32)) X.1 X.2.1 dX9_fenceSpace_122 (by decide) ?_
    obtain ⟨m7, r6, hr6, h⟩ := bw_some h
    refine r_cVi (As := [.int x6, .int (0 : Int32)]) (rest := [.int x_3]) X w lyM_0 rfl (kX9_goes  l D ca ad m2 x6 (0 : Int32)  hr6) (gTV tw_1134 tw_1136 tw_48 tw_75 tw_1137) hdX9_goes (by decide) rfl hl.1 rfl (Nat.le_of_ble_eq_true rfl) dX9_fenceSpace_123 ⟨Nat.zero_le _, Nat.zero_le _⟩ (fun H locs w => ?_)
    refine lv_iadd X.1 X.2.1 dX9_fenceSpace_126 ?_
    obtain ⟨x_8, ex_8, h⟩ := lk_some h
    refine lv_name ex_8 ?_
    refine lv_istore_n (lv' := [(3, .int x_8), (0, .ref (ad 0)), (2, .int x2), (4, .int x4), (6, .int x6)]) X.1 X.2.1 dX9_fenceSpace_127 rfl hl (by decide) rfl (fun ls hl => ?_)
    refine lv_iinc (v := (x4 + (1 : Int32))) (lv' := [(4, .int (x4 + (1 : Int32))), (3, .int x_8), (0, .ref (ad 0)), (2, .int x2), (6, .int x6)]) X.1 X.2.1 dX9_fenceSpace_128 hl (k := 3) rfl rfl (by decide) rfl (fun ls hl => ?_)
    refine lv_goto (tgt := 40) X.1 X.2.1 dX9_fenceSpace_131 (by decide) ?_
    exact hk40 _ _ _ _ H locs ls w (lv_sub hl [2, 3, 1, 0] rfl) h
  · rw [if_pos c5] at h
    refine lv_iconst (v := (1 : Int32)) X.1 X.2.1 dX9_fenceSpace_118 (by decide) ?_
    refine lv_goto (tgt := 123) X.1 X.2.1 dX9_fenceSpace_119 (by decide) ?_
    obtain ⟨m10, r9, hr9, h⟩ := bw_some h
    refine r_cVi (As := [.int x6, .int (1 : Int32)]) (rest := [.int x_3]) X w lyM_0 rfl (kX9_goes  l D ca ad m2 x6 (1 : Int32)  hr9) (gTV tw_1134 tw_1136 tw_48 tw_75 tw_1137) hdX9_goes (by decide) rfl hl.1 rfl (Nat.le_of_ble_eq_true rfl) dX9_fenceSpace_123 ⟨Nat.zero_le _, Nat.zero_le _⟩ (fun H locs w => ?_)
    refine lv_iadd X.1 X.2.1 dX9_fenceSpace_126 ?_
    obtain ⟨x_11, ex_11, h⟩ := lk_some h
    refine lv_name ex_11 ?_
    refine lv_istore_n (lv' := [(3, .int x_11), (0, .ref (ad 0)), (2, .int x2), (4, .int x4), (6, .int x6)]) X.1 X.2.1 dX9_fenceSpace_127 rfl hl (by decide) rfl (fun ls hl => ?_)
    refine lv_iinc (v := (x4 + (1 : Int32))) (lv' := [(4, .int (x4 + (1 : Int32))), (3, .int x_11), (0, .ref (ad 0)), (2, .int x2), (6, .int x6)]) X.1 X.2.1 dX9_fenceSpace_128 hl (k := 3) rfl rfl (by decide) rfl (fun ls hl => ?_)
    refine lv_goto (tgt := 40) X.1 X.2.1 dX9_fenceSpace_131 (by decide) ?_
    exact hk40 _ _ _ _ H locs ls w (lv_sub hl [2, 3, 1, 0] rfl) h
def fX9_fenceSpace_b40_s  (k40 : Mm → Int32 → Int32 → Int32 → Option (Mm × Int32)) (mem : Mm) (x2 : Int32) (x3 : Int32) (x4 : Int32) : Option (Mm × Int32) :=
  if (6 : Int32) ≤ x4 then fX9_fenceSpace_b137 2000 mem x2 x3 (0 : Int32) else lk ((192 : Int32) + ((7 : Int32) * x4)) (fun x_2 => lk ((234 : Int32) + ((7 : Int32) * x4)) (fun x_3 => gd x_2 345 (if (mem 1 x_2.toNatClampNeg) = x2 then bd (fX9_isGlobal mem x_2) (fun r6 => if r6 = 0 then fX9_fenceSpace_b98 k40 mem x2 x4 x_3 x3 x_2 (1 : Int32) else fX9_fenceSpace_b98 k40 mem x2 x4 x_3 x3 x_2 (0 : Int32)) else fX9_fenceSpace_b98 k40 mem x2 x4 x_3 x3 x_2 (0 : Int32))))
def fX9_fenceSpace_b40  : Nat → Mm → Int32 → Int32 → Int32 → Option (Mm × Int32)
  | 0 => fun _ _ _ _ => none
  | n + 1 => fX9_fenceSpace_b40_s  (fX9_fenceSpace_b40  n)
set_option maxRecDepth 100000 in
set_option maxHeartbeats 4000000 in
theorem wX9_fenceSpace_b40_s {p : Program} {l : Launch} {e : Env} {s : State} {m : MethodId} {args : Array Value} {below : List Frame} {meth : Method} {c : Code} {D : va_G} {ca : Nat → ClassId} {ad : Nat → Nat} {H : Heap} {locs : List Loc} {ls : Array Slot} {mem : Mm} {x2 : Int32} {x3 : Int32} {x4 : Int32}  {k40 : Mm → Int32 → Int32 → Int32 → Option (Mm × Int32)} {mem' : Mm} {r : Int32} (X : CallFix p m c cX9_fenceSpace 7 s args TT RX9) (M : Mt meth (some .int))  (hk40 : ∀ (mem : Mm) (x2 : Int32) (x3 : Int32) (x4 : Int32) (H : Heap) (locs : List Loc) (ls : Array Slot) , Wd D ca ad layM (AA ad layM.length) s.heap s mem H locs → lv_has ls 7 [(0, .ref (ad 0)), (2, .int x2), (3, .int x3), (4, .int x4)] → k40 mem x2 x3 x4 = some (mem', r) → W p l e (rmx 2 44) s m args below meth c H locs 0 0 (EndI D ca ad layM mem' r below args s) (F0 m 40 ls []))  (w : Wd D ca ad layM (AA ad layM.length) s.heap s mem H locs) (hl : lv_has ls 7 [(0, .ref (ad 0)), (2, .int x2), (3, .int x3), (4, .int x4)]) (h : fX9_fenceSpace_b40_s  k40 mem x2 x3 x4 = some (mem', r)) : W p l e (rmx 2 44) s m args below meth c H locs 0 0 (EndI D ca ad layM mem' r below args s) (F0 m 40 ls []) := by
  unfold fX9_fenceSpace_b40_s at h
  refine lv_iload X.1 X.2.1 dX9_fenceSpace_40 (lv_at hl 3 rfl) ?_
  refine lv_bipush (v := (6 : Int32)) X.1 X.2.1 dX9_fenceSpace_42 (by decide) ?_
  refine lv_icmp_ge (tgt := 134) X.1 X.2.1 dX9_fenceSpace_44 (by decide) (fun c1 => ?_) (fun c1 => ?_)
  · rw [if_pos c1] at h
    refine lv_iconst (v := (0 : Int32)) X.1 X.2.1 dX9_fenceSpace_134 (by decide) ?_
    refine lv_istore (lv' := [(4, .int (0 : Int32)), (0, .ref (ad 0)), (2, .int x2), (3, .int x3)]) X.1 X.2.1 dX9_fenceSpace_135 hl (by decide) rfl (fun ls hl => ?_)
    exact wX9_fenceSpace_b137 X M _ _ _ _ _ H locs ls w (lv_sub hl [1, 2, 3, 0] rfl) h
  · rw [if_neg c1] at h
    refine lv_sipush (v := (192 : Int32)) X.1 X.2.1 dX9_fenceSpace_47 (by decide) ?_
    refine lv_bipush (v := (7 : Int32)) X.1 X.2.1 dX9_fenceSpace_50 (by decide) ?_
    refine lv_iload X.1 X.2.1 dX9_fenceSpace_52 (lv_at hl 3 rfl) ?_
    refine lv_imul X.1 X.2.1 dX9_fenceSpace_54 ?_
    refine lv_iadd X.1 X.2.1 dX9_fenceSpace_55 ?_
    obtain ⟨x_2, ex_2, h⟩ := lk_some h
    refine lv_name ex_2 ?_
    refine lv_istore (lv' := [(5, .int x_2), (0, .ref (ad 0)), (2, .int x2), (3, .int x3), (4, .int x4)]) X.1 X.2.1 dX9_fenceSpace_56 hl (by decide) rfl (fun ls hl => ?_)
    refine lv_sipush (v := (234 : Int32)) X.1 X.2.1 dX9_fenceSpace_58 (by decide) ?_
    refine lv_bipush (v := (7 : Int32)) X.1 X.2.1 dX9_fenceSpace_61 (by decide) ?_
    refine lv_iload X.1 X.2.1 dX9_fenceSpace_63 (lv_at hl 4 rfl) ?_
    refine lv_imul X.1 X.2.1 dX9_fenceSpace_65 ?_
    refine lv_iadd X.1 X.2.1 dX9_fenceSpace_66 ?_
    obtain ⟨x_3, ex_3, h⟩ := lk_some h
    refine lv_name ex_3 ?_
    refine lv_istore (lv' := [(6, .int x_3), (5, .int x_2), (0, .ref (ad 0)), (2, .int x2), (3, .int x3), (4, .int x4)]) X.1 X.2.1 dX9_fenceSpace_67 hl (by decide) rfl (fun ls hl => ?_)
    refine lv_iload_n X.1 X.2.1 dX9_fenceSpace_69 rfl (lv_at hl 4 rfl) ?_
    refine lv_aload_n X.1 X.2.1 dX9_fenceSpace_70 rfl (lv_at hl 2 rfl) ?_
    refine lv_iload X.1 X.2.1 dX9_fenceSpace_71 (lv_at hl 1 rfl) ?_
    refine lv_aload_n X.1 X.2.1 dX9_fenceSpace_73 rfl (lv_at hl 2 rfl) ?_
    refine r_getr (b2 := 1) X w lyM_0 rfl inT9 1 rfl rfl (by decide) rfl tw_903 dX9_fenceSpace_74 ?_
    refine lv_iload X.1 X.2.1 dX9_fenceSpace_77 (lv_at hl 1 rfl) ?_
    obtain ⟨hi4, h⟩ := gd_some h
    refine r_iald X w lyM_1 hi4 dX9_fenceSpace_79 ?_
    refine lv_iload_n X.1 X.2.1 dX9_fenceSpace_80 rfl (lv_at hl 3 rfl) ?_
    refine lv_icmp_ne (tgt := 97) X.1 X.2.1 dX9_fenceSpace_81 (by decide) (fun c5 => ?_) (fun c5 => ?_)
    · rw [if_neg c5] at h
      refine lv_iconst (v := (0 : Int32)) X.1 X.2.1 dX9_fenceSpace_97 (by decide) ?_
      exact wX9_fenceSpace_b98 X M hk40 w (lv_sub hl [2, 3, 5, 0] rfl) h
    · rw [if_pos c5] at h
      refine lv_aload_n X.1 X.2.1 dX9_fenceSpace_84 rfl (lv_at hl 2 rfl) ?_
      refine lv_iload X.1 X.2.1 dX9_fenceSpace_85 (lv_at hl 1 rfl) ?_
      obtain ⟨r6, hr6, h⟩ := bd_some h
      refine r_cVi (As := [.int x_2]) (rest := [.int x_2, .ref (ad 0), .int x3]) X w lyM_0 rfl (kX9_isGlobal  l D ca ad mem x_2  hr6) (gTV tw_1130 tw_1132 tw_47 tw_75 tw_1133) hdX9_isGlobal (by decide) rfl hl.1 rfl (Nat.le_of_ble_eq_true rfl) dX9_fenceSpace_87 ⟨Nat.zero_le _, Nat.zero_le _⟩ (fun H locs w => ?_)
      refine lv_if_ne (tgt := 97) X.1 X.2.1 dX9_fenceSpace_90 (by decide) (fun c7 => ?_) (fun c7 => ?_)
      · rw [if_neg c7] at h
        refine lv_iconst (v := (0 : Int32)) X.1 X.2.1 dX9_fenceSpace_97 (by decide) ?_
        exact wX9_fenceSpace_b98 X M hk40 w (lv_sub hl [2, 3, 5, 0] rfl) h
      · rw [if_pos c7] at h
        refine lv_iconst (v := (1 : Int32)) X.1 X.2.1 dX9_fenceSpace_93 (by decide) ?_
        refine lv_goto (tgt := 98) X.1 X.2.1 dX9_fenceSpace_94 (by decide) ?_
        exact wX9_fenceSpace_b98 X M hk40 w (lv_sub hl [2, 3, 5, 0] rfl) h
set_option maxRecDepth 100000 in
set_option maxHeartbeats 4000000 in
theorem wX9_fenceSpace_b40 {p : Program} {l : Launch} {e : Env} {s : State} {m : MethodId} {args : Array Value} {below : List Frame} {meth : Method} {c : Code} {D : va_G} {ca : Nat → ClassId} {ad : Nat → Nat}  {mem' : Mm} {r : Int32} (X : CallFix p m c cX9_fenceSpace 7 s args TT RX9) (M : Mt meth (some .int))  : ∀ (n : Nat) (mem : Mm) (x2 : Int32) (x3 : Int32) (x4 : Int32) (H : Heap) (locs : List Loc) (ls : Array Slot)  (_ : Wd D ca ad layM (AA ad layM.length) s.heap s mem H locs) (_ : lv_has ls 7 [(0, .ref (ad 0)), (2, .int x2), (3, .int x3), (4, .int x4)]) (_ : fX9_fenceSpace_b40  n mem x2 x3 x4 = some (mem', r)), W p l e (rmx 2 44) s m args below meth c H locs 0 0 (EndI D ca ad layM mem' r below args s) (F0 m 40 ls []) := by
  intro n
  induction n with
  | zero => intro mem x2 x3 x4 H locs ls  w hl h; exact (nofun : (none : Option (Mm × Int32)) = _ → _) h
  | succ n ih => intro mem x2 x3 x4 H locs ls  w hl h; exact wX9_fenceSpace_b40_s X M  ih  w hl h
def fX9_fenceSpace (mem : Mm) (a1 : Int32) : Option (Mm × Int32) :=
  wk mem 0 0 (0 : Int32) (fun m1 => if (fX9_isSpace a1) = 0 then some (m1, (-1 : Int32)) else gd a1 6 (wk m1 6 a1.toNatClampNeg (m1 0 7) (fun m4 => gd ((332 : Int32) + a1) 345 (lk (m4 1 ((332 : Int32) + a1).toNatClampNeg) (fun x_6 => fX9_fenceSpace_b40 2000 m4 x_6 (0 : Int32) (0 : Int32))))))
set_option maxRecDepth 100000 in
set_option maxHeartbeats 4000000 in
theorem kX9_fenceSpace (l : Launch) (D : va_G) (ca : Nat → ClassId) (ad : Nat → Nat) (mem : Mm) (a1 : Int32)  {mem' : Mm} {r : Int32} (h : fX9_fenceSpace mem a1 = some (mem', r)) : CtI l yX9_fenceSpace cX9_fenceSpace 7 (some .int) (rmx 2 44) D ca ad layM mem [.ref (ad 0), .int a1] mem' r := by
  refine CtI.of (by decide) (Nat.le_of_ble_eq_true rfl) ?_
  intro p e s m args below meth c H locs ls X M w hl
  replace X : CallFix p m c cX9_fenceSpace 7 s args TT RX9 := X
  replace hl : lv_has ls 7 [(0, .ref (ad 0)), (1, .int a1)] := hl
  unfold fX9_fenceSpace at h
  refine lv_aload_n X.1 X.2.1 dX9_fenceSpace_0 rfl (lv_at hl 0 rfl) ?_
  refine lv_iconst (v := (0 : Int32)) X.1 X.2.1 dX9_fenceSpace_1 (by decide) ?_
  refine r_put X w lyM_0 rfl inT9 tyX9 tyX9_ok nmX9 0 rfl (by decide) rfl rfl tw_902 rfl rfl dX9_fenceSpace_2 (fun H locs w => ?_)
  obtain ⟨m1, em1, h⟩ := wk_some h
  rw [em1] at w
  refine lv_iload_n X.1 X.2.1 dX9_fenceSpace_5 rfl (lv_at hl 1 rfl) ?_
  refine r_cSi (As := [.int a1]) (rest := []) X w (kX9_isSpace  l D ca ad m1 a1  rfl) (gTS tw_1004 tw_1005 tw_75 tw_1006) hdX9_isSpace (by decide) rfl hl.1 rfl (Nat.le_of_ble_eq_true rfl) dX9_fenceSpace_6 ⟨Nat.zero_le _, Nat.zero_le _⟩ (fun H locs w => ?_)
  refine lv_if_ne (tgt := 14) X.1 X.2.1 dX9_fenceSpace_9 (by decide) (fun c2 => ?_) (fun c2 => ?_)
  · rw [if_neg c2] at h
    refine lv_aload_n X.1 X.2.1 dX9_fenceSpace_14 rfl (lv_at hl 0 rfl) ?_
    refine r_getr (b2 := 6) X w lyM_0 rfl inT9 9 rfl rfl (by decide) rfl tw_911 dX9_fenceSpace_15 ?_
    refine lv_iload_n X.1 X.2.1 dX9_fenceSpace_18 rfl (lv_at hl 1 rfl) ?_
    refine lv_aload_n X.1 X.2.1 dX9_fenceSpace_19 rfl (lv_at hl 0 rfl) ?_
    refine r_get X w lyM_0 rfl inT9 7 rfl (by decide) rfl tw_909 dX9_fenceSpace_20 ?_
    obtain ⟨hi3, h⟩ := gd_some h
    refine r_iast X w lyM_6 hi3 dX9_fenceSpace_23 (fun H locs w => ?_)
    obtain ⟨m4, em4, h⟩ := wk_some h
    rw [em4] at w
    refine lv_aload_n X.1 X.2.1 dX9_fenceSpace_24 rfl (lv_at hl 0 rfl) ?_
    refine r_getr (b2 := 1) X w lyM_0 rfl inT9 1 rfl rfl (by decide) rfl tw_903 dX9_fenceSpace_25 ?_
    refine lv_sipush (v := (332 : Int32)) X.1 X.2.1 dX9_fenceSpace_28 (by decide) ?_
    refine lv_iload_n X.1 X.2.1 dX9_fenceSpace_31 rfl (lv_at hl 1 rfl) ?_
    refine lv_iadd X.1 X.2.1 dX9_fenceSpace_32 ?_
    obtain ⟨hi5, h⟩ := gd_some h
    refine r_iald X w lyM_1 hi5 dX9_fenceSpace_33 ?_
    obtain ⟨x_6, ex_6, h⟩ := lk_some h
    refine lv_name ex_6 ?_
    refine lv_istore_n (lv' := [(2, .int x_6), (0, .ref (ad 0)), (1, .int a1)]) X.1 X.2.1 dX9_fenceSpace_34 rfl hl (by decide) rfl (fun ls hl => ?_)
    refine lv_iconst (v := (0 : Int32)) X.1 X.2.1 dX9_fenceSpace_35 (by decide) ?_
    refine lv_istore_n (lv' := [(3, .int (0 : Int32)), (2, .int x_6), (0, .ref (ad 0)), (1, .int a1)]) X.1 X.2.1 dX9_fenceSpace_36 rfl hl (by decide) rfl (fun ls hl => ?_)
    refine lv_iconst (v := (0 : Int32)) X.1 X.2.1 dX9_fenceSpace_37 (by decide) ?_
    refine lv_istore (lv' := [(4, .int (0 : Int32)), (3, .int (0 : Int32)), (2, .int x_6), (0, .ref (ad 0)), (1, .int a1)]) X.1 X.2.1 dX9_fenceSpace_38 hl (by decide) rfl (fun ls hl => ?_)
    exact wX9_fenceSpace_b40 X M _ _ _ _ _ H locs ls w (lv_sub hl [3, 2, 1, 0] rfl) h
  · rw [if_pos c2] at h
    refine lv_iconst (v := (-1 : Int32)) X.1 X.2.1 dX9_fenceSpace_12 (by decide) ?_
    obtain ⟨rfl, rfl⟩ := Prod.mk.inj (Option.some.inj h)
    exact r_iret X M w dX9_fenceSpace_13
/-! WalkHouseModel.fenceAll()I (W) -/
theorem hdX9_fenceAll : yX9_fenceAll.cls = RX9 ∧ yX9_fenceAll.cls ≠ "java/lang/invoke/MethodHandle" ∧ yX9_fenceAll.cls ≠ "java/lang/invoke/VarHandle" ∧ (parseMethodDescriptor yX9_fenceAll.desc).map (fun d => d.parameters.length) = some 0 := by decide +kernel
def fX9_fenceAll_b61_s  (k61 : Mm → Int32 → Int32 → Option (Mm × Int32)) (mem : Mm) (x1 : Int32) (x2 : Int32) : Option (Mm × Int32) :=
  if (4 : Int32) ≤ x2 then some (mem, x1) else bd (fX9_isGoing mem x2) (fun r2 => if r2 = 0 then k61 mem x1 (x2 + (1 : Int32)) else bw (fX9_aborts mem x2) (fun m5 r4 => k61 m5 x1 (x2 + (1 : Int32))))
def fX9_fenceAll_b61  : Nat → Mm → Int32 → Int32 → Option (Mm × Int32)
  | 0 => fun _ _ _ => none
  | n + 1 => fX9_fenceAll_b61_s  (fX9_fenceAll_b61  n)
set_option maxRecDepth 100000 in
set_option maxHeartbeats 4000000 in
theorem wX9_fenceAll_b61_s {p : Program} {l : Launch} {e : Env} {s : State} {m : MethodId} {args : Array Value} {below : List Frame} {meth : Method} {c : Code} {D : va_G} {ca : Nat → ClassId} {ad : Nat → Nat} {H : Heap} {locs : List Loc} {ls : Array Slot} {mem : Mm} {x1 : Int32} {x2 : Int32}  {k61 : Mm → Int32 → Int32 → Option (Mm × Int32)} {mem' : Mm} {r : Int32} (X : CallFix p m c cX9_fenceAll 3 s args TT RX9) (M : Mt meth (some .int))  (hk61 : ∀ (mem : Mm) (x1 : Int32) (x2 : Int32) (H : Heap) (locs : List Loc) (ls : Array Slot) , Wd D ca ad layM (AA ad layM.length) s.heap s mem H locs → lv_has ls 3 [(0, .ref (ad 0)), (1, .int x1), (2, .int x2)] → k61 mem x1 x2 = some (mem', r) → W p l e (rmx 2 44) s m args below meth c H locs 0 0 (EndI D ca ad layM mem' r below args s) (F0 m 61 ls []))  (w : Wd D ca ad layM (AA ad layM.length) s.heap s mem H locs) (hl : lv_has ls 3 [(0, .ref (ad 0)), (1, .int x1), (2, .int x2)]) (h : fX9_fenceAll_b61_s  k61 mem x1 x2 = some (mem', r)) : W p l e (rmx 2 44) s m args below meth c H locs 0 0 (EndI D ca ad layM mem' r below args s) (F0 m 61 ls []) := by
  unfold fX9_fenceAll_b61_s at h
  refine lv_iload_n X.1 X.2.1 dX9_fenceAll_61 rfl (lv_at hl 2 rfl) ?_
  refine lv_iconst (v := (4 : Int32)) X.1 X.2.1 dX9_fenceAll_62 (by decide) ?_
  refine lv_icmp_ge (tgt := 85) X.1 X.2.1 dX9_fenceAll_63 (by decide) (fun c1 => ?_) (fun c1 => ?_)
  · rw [if_pos c1] at h
    refine lv_iload_n X.1 X.2.1 dX9_fenceAll_85 rfl (lv_at hl 1 rfl) ?_
    obtain ⟨rfl, rfl⟩ := Prod.mk.inj (Option.some.inj h)
    exact r_iret X M w dX9_fenceAll_86
  · rw [if_neg c1] at h
    refine lv_aload_n X.1 X.2.1 dX9_fenceAll_66 rfl (lv_at hl 0 rfl) ?_
    refine lv_iload_n X.1 X.2.1 dX9_fenceAll_67 rfl (lv_at hl 2 rfl) ?_
    obtain ⟨r2, hr2, h⟩ := bd_some h
    refine r_cVi (As := [.int x2]) (rest := []) X w lyM_0 rfl (kX9_isGoing  l D ca ad mem x2  hr2) (gTV tw_1023 tw_1025 tw_31 tw_75 tw_1026) hdX9_isGoing (by decide) rfl hl.1 rfl (Nat.le_of_ble_eq_true rfl) dX9_fenceAll_68 ⟨Nat.zero_le _, Nat.zero_le _⟩ (fun H locs w => ?_)
    refine lv_if_eq (tgt := 79) X.1 X.2.1 dX9_fenceAll_71 (by decide) (fun c3 => ?_) (fun c3 => ?_)
    · rw [if_pos c3] at h
      refine lv_iinc (v := (x2 + (1 : Int32))) (lv' := [(2, .int (x2 + (1 : Int32))), (0, .ref (ad 0)), (1, .int x1)]) X.1 X.2.1 dX9_fenceAll_79 hl (k := 2) rfl rfl (by decide) rfl (fun ls hl => ?_)
      refine lv_goto (tgt := 61) X.1 X.2.1 dX9_fenceAll_82 (by decide) ?_
      exact hk61 _ _ _ H locs ls w (lv_sub hl [1, 2, 0] rfl) h
    · rw [if_neg c3] at h
      refine lv_aload_n X.1 X.2.1 dX9_fenceAll_74 rfl (lv_at hl 0 rfl) ?_
      refine lv_iload_n X.1 X.2.1 dX9_fenceAll_75 rfl (lv_at hl 2 rfl) ?_
      obtain ⟨m5, r4, hr4, h⟩ := bw_some h
      refine r_cVv (As := [.int x2]) (rest := []) X w lyM_0 rfl (kX9_aborts  l D ca ad mem x2  hr4) (gTV tw_1031 tw_1033 tw_33 tw_75 tw_1034) hdX9_aborts (by decide) rfl hl.1 rfl (Nat.le_of_ble_eq_true rfl) dX9_fenceAll_76 ⟨Nat.zero_le _, Nat.zero_le _⟩ (fun H locs w => ?_)
      refine lv_iinc (v := (x2 + (1 : Int32))) (lv' := [(2, .int (x2 + (1 : Int32))), (0, .ref (ad 0)), (1, .int x1)]) X.1 X.2.1 dX9_fenceAll_79 hl (k := 2) rfl rfl (by decide) rfl (fun ls hl => ?_)
      refine lv_goto (tgt := 61) X.1 X.2.1 dX9_fenceAll_82 (by decide) ?_
      exact hk61 _ _ _ H locs ls w (lv_sub hl [1, 2, 0] rfl) h
set_option maxRecDepth 100000 in
set_option maxHeartbeats 4000000 in
theorem wX9_fenceAll_b61 {p : Program} {l : Launch} {e : Env} {s : State} {m : MethodId} {args : Array Value} {below : List Frame} {meth : Method} {c : Code} {D : va_G} {ca : Nat → ClassId} {ad : Nat → Nat}  {mem' : Mm} {r : Int32} (X : CallFix p m c cX9_fenceAll 3 s args TT RX9) (M : Mt meth (some .int))  : ∀ (n : Nat) (mem : Mm) (x1 : Int32) (x2 : Int32) (H : Heap) (locs : List Loc) (ls : Array Slot)  (_ : Wd D ca ad layM (AA ad layM.length) s.heap s mem H locs) (_ : lv_has ls 3 [(0, .ref (ad 0)), (1, .int x1), (2, .int x2)]) (_ : fX9_fenceAll_b61  n mem x1 x2 = some (mem', r)), W p l e (rmx 2 44) s m args below meth c H locs 0 0 (EndI D ca ad layM mem' r below args s) (F0 m 61 ls []) := by
  intro n
  induction n with
  | zero => intro mem x1 x2 H locs ls  w hl h; exact (nofun : (none : Option (Mm × Int32)) = _ → _) h
  | succ n ih => intro mem x1 x2 H locs ls  w hl h; exact wX9_fenceAll_b61_s X M  ih  w hl h
def fX9_fenceAll_b17_s  (k17 : Mm → Int32 → Int32 → Option (Mm × Int32)) (mem : Mm) (x1 : Int32) (x2 : Int32) : Option (Mm × Int32) :=
  if (6 : Int32) ≤ x2 then fX9_fenceAll_b61 2000 mem x1 (0 : Int32) else bw (fX9_goes mem ((192 : Int32) + ((7 : Int32) * x2)) (1 : Int32)) (fun m3 r2 => bw (fX9_goes m3 ((234 : Int32) + ((7 : Int32) * x2)) (1 : Int32)) (fun m5 r4 => lk (x1 + (r2 + r4)) (fun x_6 => k17 m5 x_6 (x2 + (1 : Int32)))))
def fX9_fenceAll_b17  : Nat → Mm → Int32 → Int32 → Option (Mm × Int32)
  | 0 => fun _ _ _ => none
  | n + 1 => fX9_fenceAll_b17_s  (fX9_fenceAll_b17  n)
set_option maxRecDepth 100000 in
set_option maxHeartbeats 4000000 in
theorem wX9_fenceAll_b17_s {p : Program} {l : Launch} {e : Env} {s : State} {m : MethodId} {args : Array Value} {below : List Frame} {meth : Method} {c : Code} {D : va_G} {ca : Nat → ClassId} {ad : Nat → Nat} {H : Heap} {locs : List Loc} {ls : Array Slot} {mem : Mm} {x1 : Int32} {x2 : Int32}  {k17 : Mm → Int32 → Int32 → Option (Mm × Int32)} {mem' : Mm} {r : Int32} (X : CallFix p m c cX9_fenceAll 3 s args TT RX9) (M : Mt meth (some .int))  (hk17 : ∀ (mem : Mm) (x1 : Int32) (x2 : Int32) (H : Heap) (locs : List Loc) (ls : Array Slot) , Wd D ca ad layM (AA ad layM.length) s.heap s mem H locs → lv_has ls 3 [(0, .ref (ad 0)), (1, .int x1), (2, .int x2)] → k17 mem x1 x2 = some (mem', r) → W p l e (rmx 2 44) s m args below meth c H locs 0 0 (EndI D ca ad layM mem' r below args s) (F0 m 17 ls []))  (w : Wd D ca ad layM (AA ad layM.length) s.heap s mem H locs) (hl : lv_has ls 3 [(0, .ref (ad 0)), (1, .int x1), (2, .int x2)]) (h : fX9_fenceAll_b17_s  k17 mem x1 x2 = some (mem', r)) : W p l e (rmx 2 44) s m args below meth c H locs 0 0 (EndI D ca ad layM mem' r below args s) (F0 m 17 ls []) := by
  unfold fX9_fenceAll_b17_s at h
  refine lv_iload_n X.1 X.2.1 dX9_fenceAll_17 rfl (lv_at hl 2 rfl) ?_
  refine lv_bipush (v := (6 : Int32)) X.1 X.2.1 dX9_fenceAll_18 (by decide) ?_
  refine lv_icmp_ge (tgt := 59) X.1 X.2.1 dX9_fenceAll_20 (by decide) (fun c1 => ?_) (fun c1 => ?_)
  · rw [if_pos c1] at h
    refine lv_iconst (v := (0 : Int32)) X.1 X.2.1 dX9_fenceAll_59 (by decide) ?_
    refine lv_istore_n (lv' := [(2, .int (0 : Int32)), (0, .ref (ad 0)), (1, .int x1)]) X.1 X.2.1 dX9_fenceAll_60 rfl hl (by decide) rfl (fun ls hl => ?_)
    exact wX9_fenceAll_b61 X M _ _ _ _ H locs ls w (lv_sub hl [1, 2, 0] rfl) h
  · rw [if_neg c1] at h
    refine lv_iload_n X.1 X.2.1 dX9_fenceAll_23 rfl (lv_at hl 1 rfl) ?_
    refine lv_aload_n X.1 X.2.1 dX9_fenceAll_24 rfl (lv_at hl 0 rfl) ?_
    refine lv_sipush (v := (192 : Int32)) X.1 X.2.1 dX9_fenceAll_25 (by decide) ?_
    refine lv_bipush (v := (7 : Int32)) X.1 X.2.1 dX9_fenceAll_28 (by decide) ?_
    refine lv_iload_n X.1 X.2.1 dX9_fenceAll_30 rfl (lv_at hl 2 rfl) ?_
    refine lv_imul X.1 X.2.1 dX9_fenceAll_31 ?_
    refine lv_iadd X.1 X.2.1 dX9_fenceAll_32 ?_
    refine lv_iconst (v := (1 : Int32)) X.1 X.2.1 dX9_fenceAll_33 (by decide) ?_
    obtain ⟨m3, r2, hr2, h⟩ := bw_some h
    refine r_cVi (As := [.int ((192 : Int32) + ((7 : Int32) * x2)), .int (1 : Int32)]) (rest := [.int x1]) X w lyM_0 rfl (kX9_goes  l D ca ad mem ((192 : Int32) + ((7 : Int32) * x2)) (1 : Int32)  hr2) (gTV tw_1134 tw_1136 tw_48 tw_75 tw_1137) hdX9_goes (by decide) rfl hl.1 rfl (Nat.le_of_ble_eq_true rfl) dX9_fenceAll_34 ⟨Nat.zero_le _, Nat.zero_le _⟩ (fun H locs w => ?_)
    refine lv_aload_n X.1 X.2.1 dX9_fenceAll_37 rfl (lv_at hl 0 rfl) ?_
    refine lv_sipush (v := (234 : Int32)) X.1 X.2.1 dX9_fenceAll_38 (by decide) ?_
    refine lv_bipush (v := (7 : Int32)) X.1 X.2.1 dX9_fenceAll_41 (by decide) ?_
    refine lv_iload_n X.1 X.2.1 dX9_fenceAll_43 rfl (lv_at hl 2 rfl) ?_
    refine lv_imul X.1 X.2.1 dX9_fenceAll_44 ?_
    refine lv_iadd X.1 X.2.1 dX9_fenceAll_45 ?_
    refine lv_iconst (v := (1 : Int32)) X.1 X.2.1 dX9_fenceAll_46 (by decide) ?_
    obtain ⟨m5, r4, hr4, h⟩ := bw_some h
    refine r_cVi (As := [.int ((234 : Int32) + ((7 : Int32) * x2)), .int (1 : Int32)]) (rest := [.int r2, .int x1]) X w lyM_0 rfl (kX9_goes  l D ca ad m3 ((234 : Int32) + ((7 : Int32) * x2)) (1 : Int32)  hr4) (gTV tw_1134 tw_1136 tw_48 tw_75 tw_1137) hdX9_goes (by decide) rfl hl.1 rfl (Nat.le_of_ble_eq_true rfl) dX9_fenceAll_47 ⟨Nat.zero_le _, Nat.zero_le _⟩ (fun H locs w => ?_)
    refine lv_iadd X.1 X.2.1 dX9_fenceAll_50 ?_
    refine lv_iadd X.1 X.2.1 dX9_fenceAll_51 ?_
    obtain ⟨x_6, ex_6, h⟩ := lk_some h
    refine lv_name ex_6 ?_
    refine lv_istore_n (lv' := [(1, .int x_6), (0, .ref (ad 0)), (2, .int x2)]) X.1 X.2.1 dX9_fenceAll_52 rfl hl (by decide) rfl (fun ls hl => ?_)
    refine lv_iinc (v := (x2 + (1 : Int32))) (lv' := [(2, .int (x2 + (1 : Int32))), (1, .int x_6), (0, .ref (ad 0))]) X.1 X.2.1 dX9_fenceAll_53 hl (k := 2) rfl rfl (by decide) rfl (fun ls hl => ?_)
    refine lv_goto (tgt := 17) X.1 X.2.1 dX9_fenceAll_56 (by decide) ?_
    exact hk17 _ _ _ H locs ls w (lv_sub hl [2, 1, 0] rfl) h
set_option maxRecDepth 100000 in
set_option maxHeartbeats 4000000 in
theorem wX9_fenceAll_b17 {p : Program} {l : Launch} {e : Env} {s : State} {m : MethodId} {args : Array Value} {below : List Frame} {meth : Method} {c : Code} {D : va_G} {ca : Nat → ClassId} {ad : Nat → Nat}  {mem' : Mm} {r : Int32} (X : CallFix p m c cX9_fenceAll 3 s args TT RX9) (M : Mt meth (some .int))  : ∀ (n : Nat) (mem : Mm) (x1 : Int32) (x2 : Int32) (H : Heap) (locs : List Loc) (ls : Array Slot)  (_ : Wd D ca ad layM (AA ad layM.length) s.heap s mem H locs) (_ : lv_has ls 3 [(0, .ref (ad 0)), (1, .int x1), (2, .int x2)]) (_ : fX9_fenceAll_b17  n mem x1 x2 = some (mem', r)), W p l e (rmx 2 44) s m args below meth c H locs 0 0 (EndI D ca ad layM mem' r below args s) (F0 m 17 ls []) := by
  intro n
  induction n with
  | zero => intro mem x1 x2 H locs ls  w hl h; exact (nofun : (none : Option (Mm × Int32)) = _ → _) h
  | succ n ih => intro mem x1 x2 H locs ls  w hl h; exact wX9_fenceAll_b17_s X M  ih  w hl h
def fX9_fenceAll (mem : Mm)  : Option (Mm × Int32) :=
  wk mem 0 0 (0 : Int32) (fun m1 => wk m1 0 8 (m1 0 7) (fun m2 => fX9_fenceAll_b17 2000 m2 (0 : Int32) (0 : Int32)))
set_option maxRecDepth 100000 in
set_option maxHeartbeats 4000000 in
theorem kX9_fenceAll (l : Launch) (D : va_G) (ca : Nat → ClassId) (ad : Nat → Nat) (mem : Mm)   {mem' : Mm} {r : Int32} (h : fX9_fenceAll mem  = some (mem', r)) : CtI l yX9_fenceAll cX9_fenceAll 3 (some .int) (rmx 2 44) D ca ad layM mem [.ref (ad 0)] mem' r := by
  refine CtI.of (by decide) (Nat.le_of_ble_eq_true rfl) ?_
  intro p e s m args below meth c H locs ls X M w hl
  replace X : CallFix p m c cX9_fenceAll 3 s args TT RX9 := X
  replace hl : lv_has ls 3 [(0, .ref (ad 0))] := hl
  unfold fX9_fenceAll at h
  refine lv_aload_n X.1 X.2.1 dX9_fenceAll_0 rfl (lv_at hl 0 rfl) ?_
  refine lv_iconst (v := (0 : Int32)) X.1 X.2.1 dX9_fenceAll_1 (by decide) ?_
  refine r_put X w lyM_0 rfl inT9 tyX9 tyX9_ok nmX9 0 rfl (by decide) rfl rfl tw_902 rfl rfl dX9_fenceAll_2 (fun H locs w => ?_)
  obtain ⟨m1, em1, h⟩ := wk_some h
  rw [em1] at w
  refine lv_aload_n X.1 X.2.1 dX9_fenceAll_5 rfl (lv_at hl 0 rfl) ?_
  refine lv_aload_n X.1 X.2.1 dX9_fenceAll_6 rfl (lv_at hl 0 rfl) ?_
  refine r_get X w lyM_0 rfl inT9 7 rfl (by decide) rfl tw_909 dX9_fenceAll_7 ?_
  refine r_put X w lyM_0 rfl inT9 tyX9 tyX9_ok nmX9 8 rfl (by decide) rfl rfl tw_910 rfl rfl dX9_fenceAll_10 (fun H locs w => ?_)
  obtain ⟨m2, em2, h⟩ := wk_some h
  rw [em2] at w
  refine lv_iconst (v := (0 : Int32)) X.1 X.2.1 dX9_fenceAll_13 (by decide) ?_
  refine lv_istore_n (lv' := [(1, .int (0 : Int32)), (0, .ref (ad 0))]) X.1 X.2.1 dX9_fenceAll_14 rfl hl (by decide) rfl (fun ls hl => ?_)
  refine lv_iconst (v := (0 : Int32)) X.1 X.2.1 dX9_fenceAll_15 (by decide) ?_
  refine lv_istore_n (lv' := [(2, .int (0 : Int32)), (1, .int (0 : Int32)), (0, .ref (ad 0))]) X.1 X.2.1 dX9_fenceAll_16 rfl hl (by decide) rfl (fun ls hl => ?_)
  exact wX9_fenceAll_b17 X M _ _ _ _ H locs ls w (lv_sub hl [2, 1, 0] rfl) h
/-! WalkHouseModel.walksNow(III)I (W) -/
theorem hdX9_walksNow : yX9_walksNow.cls = RX9 ∧ yX9_walksNow.cls ≠ "java/lang/invoke/MethodHandle" ∧ yX9_walksNow.cls ≠ "java/lang/invoke/VarHandle" ∧ (parseMethodDescriptor yX9_walksNow.desc).map (fun d => d.parameters.length) = some 3 := by decide +kernel
def fX9_walksNow_b33_s  (k33 : Mm → Int32 → Int32 → Int32 → Int32 → Option (Mm × Int32)) (mem : Mm) (x2 : Int32) (x3 : Int32) (x4 : Int32) (x5 : Int32) : Option (Mm × Int32) :=
  if x5 < x3 then some (mem, (3 : Int32)) else wk mem 0 18 x5 (fun m2 => bd (fX9_place x4 x2 x5) (fun r3 => wk m2 0 17 r3 (fun m4 => gd ((0 : Int32) + (m4 0 17)) 345 (lk (m4 1 ((0 : Int32) + (m4 0 17)).toNatClampNeg) (fun x_6 => wk m4 0 19 ((m4 0 19) &&& (fX9_rightsOf x_6)) (fun m7 => if (fX9_whatOf x_6) = (1 : Int32) then lk (fX9_targetOf x_6) (fun x_9 => k33 m7 x2 x3 x_9 (x5 + (-1 : Int32))) else if (fX9_whatOf x_6) = 0 then some (m7, (2 : Int32)) else some (m7, (0 : Int32))))))))
def fX9_walksNow_b33  : Nat → Mm → Int32 → Int32 → Int32 → Int32 → Option (Mm × Int32)
  | 0 => fun _ _ _ _ _ => none
  | n + 1 => fX9_walksNow_b33_s  (fX9_walksNow_b33  n)
set_option maxRecDepth 100000 in
set_option maxHeartbeats 4000000 in
theorem wX9_walksNow_b33_s {p : Program} {l : Launch} {e : Env} {s : State} {m : MethodId} {args : Array Value} {below : List Frame} {meth : Method} {c : Code} {D : va_G} {ca : Nat → ClassId} {ad : Nat → Nat} {H : Heap} {locs : List Loc} {ls : Array Slot} {mem : Mm} {x2 : Int32} {x3 : Int32} {x4 : Int32} {x5 : Int32}  {k33 : Mm → Int32 → Int32 → Int32 → Int32 → Option (Mm × Int32)} {mem' : Mm} {r : Int32} (X : CallFix p m c cX9_walksNow 7 s args TT RX9) (M : Mt meth (some .int))  (hk33 : ∀ (mem : Mm) (x2 : Int32) (x3 : Int32) (x4 : Int32) (x5 : Int32) (H : Heap) (locs : List Loc) (ls : Array Slot) , Wd D ca ad layM (AA ad layM.length) s.heap s mem H locs → lv_has ls 7 [(0, .ref (ad 0)), (2, .int x2), (3, .int x3), (4, .int x4), (5, .int x5)] → k33 mem x2 x3 x4 x5 = some (mem', r) → W p l e (rmx 2 42) s m args below meth c H locs 0 0 (EndI D ca ad layM mem' r below args s) (F0 m 33 ls []))  (w : Wd D ca ad layM (AA ad layM.length) s.heap s mem H locs) (hl : lv_has ls 7 [(0, .ref (ad 0)), (2, .int x2), (3, .int x3), (4, .int x4), (5, .int x5)]) (h : fX9_walksNow_b33_s  k33 mem x2 x3 x4 x5 = some (mem', r)) : W p l e (rmx 2 42) s m args below meth c H locs 0 0 (EndI D ca ad layM mem' r below args s) (F0 m 33 ls []) := by
  unfold fX9_walksNow_b33_s at h
  refine lv_iload X.1 X.2.1 dX9_walksNow_33 (lv_at hl 4 rfl) ?_
  refine lv_iload_n X.1 X.2.1 dX9_walksNow_35 rfl (lv_at hl 2 rfl) ?_
  refine lv_icmp_lt (tgt := 120) X.1 X.2.1 dX9_walksNow_36 (by decide) (fun c1 => ?_) (fun c1 => ?_)
  · rw [if_pos c1] at h
    refine lv_iconst (v := (3 : Int32)) X.1 X.2.1 dX9_walksNow_120 (by decide) ?_
    obtain ⟨rfl, rfl⟩ := Prod.mk.inj (Option.some.inj h)
    exact r_iret X M w dX9_walksNow_121
  · rw [if_neg c1] at h
    refine lv_aload_n X.1 X.2.1 dX9_walksNow_39 rfl (lv_at hl 0 rfl) ?_
    refine lv_iload X.1 X.2.1 dX9_walksNow_40 (lv_at hl 4 rfl) ?_
    refine r_put X w lyM_0 rfl inT9 tyX9 tyX9_ok nmX9 18 rfl (by decide) rfl rfl tw_920 rfl rfl dX9_walksNow_42 (fun H locs w => ?_)
    obtain ⟨m2, em2, h⟩ := wk_some h
    rw [em2] at w
    refine lv_aload_n X.1 X.2.1 dX9_walksNow_45 rfl (lv_at hl 0 rfl) ?_
    refine lv_iload X.1 X.2.1 dX9_walksNow_46 (lv_at hl 3 rfl) ?_
    refine lv_iload_n X.1 X.2.1 dX9_walksNow_48 rfl (lv_at hl 1 rfl) ?_
    refine lv_iload X.1 X.2.1 dX9_walksNow_49 (lv_at hl 4 rfl) ?_
    obtain ⟨r3, hr3, h⟩ := bd_some h
    refine r_cSi (As := [.int x4, .int x2, .int x5]) (rest := [.ref (ad 0)]) X w (kX9_place  l D ca ad m2 x4 x2 x5  hr3) (gTS tw_1081 tw_1082 tw_75 tw_1083) hdX9_place (by decide) rfl hl.1 rfl (Nat.le_of_ble_eq_true rfl) dX9_walksNow_51 ⟨Nat.zero_le _, Nat.zero_le _⟩ (fun H locs w => ?_)
    refine r_put X w lyM_0 rfl inT9 tyX9 tyX9_ok nmX9 17 rfl (by decide) rfl rfl tw_919 rfl rfl dX9_walksNow_54 (fun H locs w => ?_)
    obtain ⟨m4, em4, h⟩ := wk_some h
    rw [em4] at w
    refine lv_aload_n X.1 X.2.1 dX9_walksNow_57 rfl (lv_at hl 0 rfl) ?_
    refine r_getr (b2 := 1) X w lyM_0 rfl inT9 1 rfl rfl (by decide) rfl tw_903 dX9_walksNow_58 ?_
    refine lv_iconst (v := (0 : Int32)) X.1 X.2.1 dX9_walksNow_61 (by decide) ?_
    refine lv_aload_n X.1 X.2.1 dX9_walksNow_62 rfl (lv_at hl 0 rfl) ?_
    refine r_get X w lyM_0 rfl inT9 17 rfl (by decide) rfl tw_919 dX9_walksNow_63 ?_
    refine lv_iadd X.1 X.2.1 dX9_walksNow_66 ?_
    obtain ⟨hi5, h⟩ := gd_some h
    refine r_iald X w lyM_1 hi5 dX9_walksNow_67 ?_
    obtain ⟨x_6, ex_6, h⟩ := lk_some h
    refine lv_name ex_6 ?_
    refine lv_istore (lv' := [(6, .int x_6), (0, .ref (ad 0)), (2, .int x2), (3, .int x3), (4, .int x4), (5, .int x5)]) X.1 X.2.1 dX9_walksNow_68 hl (by decide) rfl (fun ls hl => ?_)
    refine lv_aload_n X.1 X.2.1 dX9_walksNow_70 rfl (lv_at hl 1 rfl) ?_
    refine lv_dup X.1 X.2.1 dX9_walksNow_71 rfl ?_
    refine r_get X w lyM_0 rfl inT9 19 rfl (by decide) rfl tw_921 dX9_walksNow_72 ?_
    refine lv_iload X.1 X.2.1 dX9_walksNow_75 (lv_at hl 0 rfl) ?_
    refine r_cSi (As := [.int x_6]) (rest := [.int (m4 0 19), .ref (ad 0)]) X w (kX9_rightsOf  l D ca ad m4 x_6  rfl) (gTS tw_1084 tw_1085 tw_75 tw_1086) hdX9_rightsOf (by decide) rfl hl.1 rfl (Nat.le_of_ble_eq_true rfl) dX9_walksNow_77 ⟨Nat.zero_le _, Nat.zero_le _⟩ (fun H locs w => ?_)
    refine lv_iand X.1 X.2.1 dX9_walksNow_80 ?_
    refine r_put X w lyM_0 rfl inT9 tyX9 tyX9_ok nmX9 19 rfl (by decide) rfl rfl tw_921 rfl rfl dX9_walksNow_81 (fun H locs w => ?_)
    obtain ⟨m7, em7, h⟩ := wk_some h
    rw [em7] at w
    refine lv_iload X.1 X.2.1 dX9_walksNow_84 (lv_at hl 0 rfl) ?_
    refine r_cSi (As := [.int x_6]) (rest := []) X w (kX9_whatOf  l D ca ad m7 x_6  rfl) (gTS tw_993 tw_994 tw_75 tw_995) hdX9_whatOf (by decide) rfl hl.1 rfl (Nat.le_of_ble_eq_true rfl) dX9_walksNow_86 ⟨Nat.zero_le _, Nat.zero_le _⟩ (fun H locs w => ?_)
    refine lv_iconst (v := (1 : Int32)) X.1 X.2.1 dX9_walksNow_89 (by decide) ?_
    refine lv_icmp_eq (tgt := 107) X.1 X.2.1 dX9_walksNow_90 (by decide) (fun c8 => ?_) (fun c8 => ?_)
    · rw [if_pos c8] at h
      refine lv_iload X.1 X.2.1 dX9_walksNow_107 (lv_at hl 0 rfl) ?_
      refine r_cSi (As := [.int x_6]) (rest := []) X w (kX9_targetOf  l D ca ad m7 x_6  rfl) (gTS tw_1087 tw_1088 tw_75 tw_1089) hdX9_targetOf (by decide) rfl hl.1 rfl (Nat.le_of_ble_eq_true rfl) dX9_walksNow_109 ⟨Nat.zero_le _, Nat.zero_le _⟩ (fun H locs w => ?_)
      obtain ⟨x_9, ex_9, h⟩ := lk_some h
      refine lv_name ex_9 ?_
      refine lv_istore (lv' := [(4, .int x_9), (6, .int x_6), (0, .ref (ad 0)), (2, .int x2), (3, .int x3), (5, .int x5)]) X.1 X.2.1 dX9_walksNow_112 hl (by decide) rfl (fun ls hl => ?_)
      refine lv_iinc (v := (x5 + (-1 : Int32))) (lv' := [(5, .int (x5 + (-1 : Int32))), (4, .int x_9), (6, .int x_6), (0, .ref (ad 0)), (2, .int x2), (3, .int x3)]) X.1 X.2.1 dX9_walksNow_114 hl (k := 5) rfl rfl (by decide) rfl (fun ls hl => ?_)
      refine lv_goto (tgt := 33) X.1 X.2.1 dX9_walksNow_117 (by decide) ?_
      exact hk33 _ _ _ _ _ H locs ls w (lv_sub hl [3, 4, 5, 1, 0] rfl) h
    · rw [if_neg c8] at h
      refine lv_iload X.1 X.2.1 dX9_walksNow_93 (lv_at hl 0 rfl) ?_
      refine r_cSi (As := [.int x_6]) (rest := []) X w (kX9_whatOf  l D ca ad m7 x_6  rfl) (gTS tw_993 tw_994 tw_75 tw_995) hdX9_whatOf (by decide) rfl hl.1 rfl (Nat.le_of_ble_eq_true rfl) dX9_walksNow_95 ⟨Nat.zero_le _, Nat.zero_le _⟩ (fun H locs w => ?_)
      refine lv_if_ne (tgt := 105) X.1 X.2.1 dX9_walksNow_98 (by decide) (fun c10 => ?_) (fun c10 => ?_)
      · rw [if_neg c10] at h
        refine lv_iconst (v := (0 : Int32)) X.1 X.2.1 dX9_walksNow_105 (by decide) ?_
        obtain ⟨rfl, rfl⟩ := Prod.mk.inj (Option.some.inj h)
        exact r_iret X M w dX9_walksNow_106
      · rw [if_pos c10] at h
        refine lv_iconst (v := (2 : Int32)) X.1 X.2.1 dX9_walksNow_101 (by decide) ?_
        refine lv_goto (tgt := 106) X.1 X.2.1 dX9_walksNow_102 (by decide) ?_
        obtain ⟨rfl, rfl⟩ := Prod.mk.inj (Option.some.inj h)
        exact r_iret X M w dX9_walksNow_106
set_option maxRecDepth 100000 in
set_option maxHeartbeats 4000000 in
theorem wX9_walksNow_b33 {p : Program} {l : Launch} {e : Env} {s : State} {m : MethodId} {args : Array Value} {below : List Frame} {meth : Method} {c : Code} {D : va_G} {ca : Nat → ClassId} {ad : Nat → Nat}  {mem' : Mm} {r : Int32} (X : CallFix p m c cX9_walksNow 7 s args TT RX9) (M : Mt meth (some .int))  : ∀ (n : Nat) (mem : Mm) (x2 : Int32) (x3 : Int32) (x4 : Int32) (x5 : Int32) (H : Heap) (locs : List Loc) (ls : Array Slot)  (_ : Wd D ca ad layM (AA ad layM.length) s.heap s mem H locs) (_ : lv_has ls 7 [(0, .ref (ad 0)), (2, .int x2), (3, .int x3), (4, .int x4), (5, .int x5)]) (_ : fX9_walksNow_b33  n mem x2 x3 x4 x5 = some (mem', r)), W p l e (rmx 2 42) s m args below meth c H locs 0 0 (EndI D ca ad layM mem' r below args s) (F0 m 33 ls []) := by
  intro n
  induction n with
  | zero => intro mem x2 x3 x4 x5 H locs ls  w hl h; exact (nofun : (none : Option (Mm × Int32)) = _ → _) h
  | succ n ih => intro mem x2 x3 x4 x5 H locs ls  w hl h; exact wX9_walksNow_b33_s X M  ih  w hl h
def fX9_walksNow (mem : Mm) (a1 : Int32) (a2 : Int32) (a3 : Int32) : Option (Mm × Int32) :=
  gd ((326 : Int32) + a1) 345 (lk (mem 1 ((326 : Int32) + a1).toNatClampNeg) (fun x_2 => wk mem 0 19 (7 : Int32) (fun m3 => wk m3 0 18 (2 : Int32) (fun m4 => if 0 ≤ x_2 then fX9_walksNow_b33 2000 m4 a2 a3 x_2 (2 : Int32) else some (m4, (1 : Int32))))))
set_option maxRecDepth 100000 in
set_option maxHeartbeats 4000000 in
theorem kX9_walksNow (l : Launch) (D : va_G) (ca : Nat → ClassId) (ad : Nat → Nat) (mem : Mm) (a1 : Int32) (a2 : Int32) (a3 : Int32)  {mem' : Mm} {r : Int32} (h : fX9_walksNow mem a1 a2 a3 = some (mem', r)) : CtI l yX9_walksNow cX9_walksNow 7 (some .int) (rmx 2 42) D ca ad layM mem [.ref (ad 0), .int a1, .int a2, .int a3] mem' r := by
  refine CtI.of (by decide) (Nat.le_of_ble_eq_true rfl) ?_
  intro p e s m args below meth c H locs ls X M w hl
  replace X : CallFix p m c cX9_walksNow 7 s args TT RX9 := X
  replace hl : lv_has ls 7 [(0, .ref (ad 0)), (1, .int a1), (2, .int a2), (3, .int a3)] := hl
  unfold fX9_walksNow at h
  refine lv_aload_n X.1 X.2.1 dX9_walksNow_0 rfl (lv_at hl 0 rfl) ?_
  refine r_getr (b2 := 1) X w lyM_0 rfl inT9 1 rfl rfl (by decide) rfl tw_903 dX9_walksNow_1 ?_
  refine lv_sipush (v := (326 : Int32)) X.1 X.2.1 dX9_walksNow_4 (by decide) ?_
  refine lv_iload_n X.1 X.2.1 dX9_walksNow_7 rfl (lv_at hl 1 rfl) ?_
  refine lv_iadd X.1 X.2.1 dX9_walksNow_8 ?_
  obtain ⟨hi1, h⟩ := gd_some h
  refine r_iald X w lyM_1 hi1 dX9_walksNow_9 ?_
  obtain ⟨x_2, ex_2, h⟩ := lk_some h
  refine lv_name ex_2 ?_
  refine lv_istore (lv' := [(4, .int x_2), (0, .ref (ad 0)), (1, .int a1), (2, .int a2), (3, .int a3)]) X.1 X.2.1 dX9_walksNow_10 hl (by decide) rfl (fun ls hl => ?_)
  refine lv_aload_n X.1 X.2.1 dX9_walksNow_12 rfl (lv_at hl 1 rfl) ?_
  refine lv_bipush (v := (7 : Int32)) X.1 X.2.1 dX9_walksNow_13 (by decide) ?_
  refine r_put X w lyM_0 rfl inT9 tyX9 tyX9_ok nmX9 19 rfl (by decide) rfl rfl tw_921 rfl rfl dX9_walksNow_15 (fun H locs w => ?_)
  obtain ⟨m3, em3, h⟩ := wk_some h
  rw [em3] at w
  refine lv_aload_n X.1 X.2.1 dX9_walksNow_18 rfl (lv_at hl 1 rfl) ?_
  refine lv_iconst (v := (2 : Int32)) X.1 X.2.1 dX9_walksNow_19 (by decide) ?_
  refine r_put X w lyM_0 rfl inT9 tyX9 tyX9_ok nmX9 18 rfl (by decide) rfl rfl tw_920 rfl rfl dX9_walksNow_20 (fun H locs w => ?_)
  obtain ⟨m4, em4, h⟩ := wk_some h
  rw [em4] at w
  refine lv_iload X.1 X.2.1 dX9_walksNow_23 (lv_at hl 0 rfl) ?_
  refine lv_if_ge (tgt := 30) X.1 X.2.1 dX9_walksNow_25 (by decide) (fun c5 => ?_) (fun c5 => ?_)
  · rw [if_pos c5] at h
    refine lv_iconst (v := (2 : Int32)) X.1 X.2.1 dX9_walksNow_30 (by decide) ?_
    refine lv_istore (lv' := [(5, .int (2 : Int32)), (4, .int x_2), (0, .ref (ad 0)), (1, .int a1), (2, .int a2), (3, .int a3)]) X.1 X.2.1 dX9_walksNow_31 hl (by decide) rfl (fun ls hl => ?_)
    exact wX9_walksNow_b33 X M _ _ _ _ _ _ H locs ls w (lv_sub hl [2, 4, 5, 1, 0] rfl) h
  · rw [if_neg c5] at h
    refine lv_iconst (v := (1 : Int32)) X.1 X.2.1 dX9_walksNow_28 (by decide) ?_
    obtain ⟨rfl, rfl⟩ := Prod.mk.inj (Option.some.inj h)
    exact r_iret X M w dX9_walksNow_29
/-! WalkHouseModel.frameNow(II)I (W) -/
theorem hdX9_frameNow : yX9_frameNow.cls = RX9 ∧ yX9_frameNow.cls ≠ "java/lang/invoke/MethodHandle" ∧ yX9_frameNow.cls ≠ "java/lang/invoke/VarHandle" ∧ (parseMethodDescriptor yX9_frameNow.desc).map (fun d => d.parameters.length) = some 2 := by decide +kernel
def fX9_frameNow (mem : Mm) (a1 : Int32) (a2 : Int32) : Option (Mm × Int32) :=
  bw (fX9_walksNow mem a1 a2 (0 : Int32)) (fun m2 r1 => if r1 ≤ 0 then gd ((0 : Int32) + (m2 0 17)) 345 (nz (fX9_wide (m2 0 18)) (some (m2, ((fX9_targetOf (m2 1 ((0 : Int32) + (m2 0 17)).toNatClampNeg)) + (a2 - a2 / (fX9_wide (m2 0 18)) * (fX9_wide (m2 0 18))))))) else some (m2, ((-2 : Int32) - r1)))
set_option maxRecDepth 100000 in
set_option maxHeartbeats 4000000 in
theorem kX9_frameNow (l : Launch) (D : va_G) (ca : Nat → ClassId) (ad : Nat → Nat) (mem : Mm) (a1 : Int32) (a2 : Int32)  {mem' : Mm} {r : Int32} (h : fX9_frameNow mem a1 a2 = some (mem', r)) : CtI l yX9_frameNow cX9_frameNow 4 (some .int) (rmx 3 68) D ca ad layM mem [.ref (ad 0), .int a1, .int a2] mem' r := by
  refine CtI.of (by decide) (Nat.le_of_ble_eq_true rfl) ?_
  intro p e s m args below meth c H locs ls X M w hl
  replace X : CallFix p m c cX9_frameNow 4 s args TT RX9 := X
  replace hl : lv_has ls 4 [(0, .ref (ad 0)), (1, .int a1), (2, .int a2)] := hl
  unfold fX9_frameNow at h
  refine lv_aload_n X.1 X.2.1 dX9_frameNow_0 rfl (lv_at hl 0 rfl) ?_
  refine lv_iload_n X.1 X.2.1 dX9_frameNow_1 rfl (lv_at hl 1 rfl) ?_
  refine lv_iload_n X.1 X.2.1 dX9_frameNow_2 rfl (lv_at hl 2 rfl) ?_
  refine lv_iconst (v := (0 : Int32)) X.1 X.2.1 dX9_frameNow_3 (by decide) ?_
  obtain ⟨m2, r1, hr1, h⟩ := bw_some h
  refine r_cVi (As := [.int a1, .int a2, .int (0 : Int32)]) (rest := []) X w lyM_0 rfl (kX9_walksNow  l D ca ad mem a1 a2 (0 : Int32)  hr1) (gTV tw_1154 tw_1156 tw_50 tw_75 tw_1157) hdX9_walksNow (by decide) rfl hl.1 rfl (Nat.le_of_ble_eq_true rfl) dX9_frameNow_4 ⟨Nat.zero_le _, Nat.zero_le _⟩ (fun H locs w => ?_)
  refine lv_istore_n (lv' := [(3, .int r1), (0, .ref (ad 0)), (1, .int a1), (2, .int a2)]) X.1 X.2.1 dX9_frameNow_7 rfl hl (by decide) rfl (fun ls hl => ?_)
  refine lv_iload_n X.1 X.2.1 dX9_frameNow_8 rfl (lv_at hl 0 rfl) ?_
  refine lv_if_le (tgt := 19) X.1 X.2.1 dX9_frameNow_9 (by decide) (fun c3 => ?_) (fun c3 => ?_)
  · rw [if_pos c3] at h
    refine lv_aload_n X.1 X.2.1 dX9_frameNow_19 rfl (lv_at hl 1 rfl) ?_
    refine r_getr (b2 := 1) X w lyM_0 rfl inT9 1 rfl rfl (by decide) rfl tw_903 dX9_frameNow_20 ?_
    refine lv_iconst (v := (0 : Int32)) X.1 X.2.1 dX9_frameNow_23 (by decide) ?_
    refine lv_aload_n X.1 X.2.1 dX9_frameNow_24 rfl (lv_at hl 1 rfl) ?_
    refine r_get X w lyM_0 rfl inT9 17 rfl (by decide) rfl tw_919 dX9_frameNow_25 ?_
    refine lv_iadd X.1 X.2.1 dX9_frameNow_28 ?_
    obtain ⟨hi4, h⟩ := gd_some h
    refine r_iald X w lyM_1 hi4 dX9_frameNow_29 ?_
    refine r_cSi (As := [.int (m2 1 ((0 : Int32) + (m2 0 17)).toNatClampNeg)]) (rest := []) X w (kX9_targetOf  l D ca ad m2 (m2 1 ((0 : Int32) + (m2 0 17)).toNatClampNeg)  rfl) (gTS tw_1087 tw_1088 tw_75 tw_1089) hdX9_targetOf (by decide) rfl hl.1 rfl (Nat.le_of_ble_eq_true rfl) dX9_frameNow_30 ⟨Nat.zero_le _, Nat.zero_le _⟩ (fun H locs w => ?_)
    refine lv_iload_n X.1 X.2.1 dX9_frameNow_33 rfl (lv_at hl 3 rfl) ?_
    refine lv_aload_n X.1 X.2.1 dX9_frameNow_34 rfl (lv_at hl 1 rfl) ?_
    refine r_get X w lyM_0 rfl inT9 18 rfl (by decide) rfl tw_920 dX9_frameNow_35 ?_
    refine r_cSi (As := [.int (m2 0 18)]) (rest := [.int a2, .int (fX9_targetOf (m2 1 ((0 : Int32) + (m2 0 17)).toNatClampNeg))]) X w (kX9_wide  l D ca ad m2 (m2 0 18)  rfl) (gTS tw_1066 tw_1067 tw_75 tw_1068) hdX9_wide (by decide) rfl hl.1 rfl (Nat.le_of_ble_eq_true rfl) dX9_frameNow_38 ⟨Nat.zero_le _, Nat.zero_le _⟩ (fun H locs w => ?_)
    obtain ⟨hz5, h⟩ := nz_some h
    refine lv_irem X.1 X.2.1 dX9_frameNow_41 hz5 ?_
    refine lv_iadd X.1 X.2.1 dX9_frameNow_42 ?_
    obtain ⟨rfl, rfl⟩ := Prod.mk.inj (Option.some.inj h)
    exact r_iret X M w dX9_frameNow_43
  · rw [if_neg c3] at h
    refine lv_bipush (v := (-2 : Int32)) X.1 X.2.1 dX9_frameNow_12 (by decide) ?_
    refine lv_iload_n X.1 X.2.1 dX9_frameNow_14 rfl (lv_at hl 0 rfl) ?_
    refine lv_isub X.1 X.2.1 dX9_frameNow_15 ?_
    refine lv_goto (tgt := 43) X.1 X.2.1 dX9_frameNow_16 (by decide) ?_
    obtain ⟨rfl, rfl⟩ := Prod.mk.inj (Option.some.inj h)
    exact r_iret X M w dX9_frameNow_43
/-! WalkHouseModel.rightsNow()I (R) -/
theorem hdX9_rightsNow : yX9_rightsNow.cls = RX9 ∧ yX9_rightsNow.cls ≠ "java/lang/invoke/MethodHandle" ∧ yX9_rightsNow.cls ≠ "java/lang/invoke/VarHandle" ∧ (parseMethodDescriptor yX9_rightsNow.desc).map (fun d => d.parameters.length) = some 0 := by decide +kernel
def fX9_rightsNow (mem : Mm)  : Option Int32 :=
  gd ((0 : Int32) + (mem 0 17)) 345 (some ((mem 0 19) ||| ((fX9_rightsOf (mem 1 ((0 : Int32) + (mem 0 17)).toNatClampNeg)) &&& (8 : Int32))))
set_option maxRecDepth 100000 in
set_option maxHeartbeats 4000000 in
theorem kX9_rightsNow (l : Launch) (D : va_G) (ca : Nat → ClassId) (ad : Nat → Nat) (mem : Mm)   {r : Int32} (h : fX9_rightsNow mem  = some r) : CtI l yX9_rightsNow cX9_rightsNow 1 (some .int) (rmx 1 20) D ca ad layM mem [.ref (ad 0)] mem r := by
  refine CtI.of (by decide) (Nat.le_of_ble_eq_true rfl) ?_
  intro p e s m args below meth c H locs ls X M w hl
  replace X : CallFix p m c cX9_rightsNow 1 s args TT RX9 := X
  replace hl : lv_has ls 1 [(0, .ref (ad 0))] := hl
  unfold fX9_rightsNow at h
  refine lv_aload_n X.1 X.2.1 dX9_rightsNow_0 rfl (lv_at hl 0 rfl) ?_
  refine r_get X w lyM_0 rfl inT9 19 rfl (by decide) rfl tw_921 dX9_rightsNow_1 ?_
  refine lv_aload_n X.1 X.2.1 dX9_rightsNow_4 rfl (lv_at hl 0 rfl) ?_
  refine r_getr (b2 := 1) X w lyM_0 rfl inT9 1 rfl rfl (by decide) rfl tw_903 dX9_rightsNow_5 ?_
  refine lv_iconst (v := (0 : Int32)) X.1 X.2.1 dX9_rightsNow_8 (by decide) ?_
  refine lv_aload_n X.1 X.2.1 dX9_rightsNow_9 rfl (lv_at hl 0 rfl) ?_
  refine r_get X w lyM_0 rfl inT9 17 rfl (by decide) rfl tw_919 dX9_rightsNow_10 ?_
  refine lv_iadd X.1 X.2.1 dX9_rightsNow_13 ?_
  obtain ⟨hi1, h⟩ := gd_some h
  refine r_iald X w lyM_1 hi1 dX9_rightsNow_14 ?_
  refine r_cSi (As := [.int (mem 1 ((0 : Int32) + (mem 0 17)).toNatClampNeg)]) (rest := [.int (mem 0 19)]) X w (kX9_rightsOf  l D ca ad mem (mem 1 ((0 : Int32) + (mem 0 17)).toNatClampNeg)  rfl) (gTS tw_1084 tw_1085 tw_75 tw_1086) hdX9_rightsOf (by decide) rfl hl.1 rfl (Nat.le_of_ble_eq_true rfl) dX9_rightsNow_15 ⟨Nat.zero_le _, Nat.zero_le _⟩ (fun H locs w => ?_)
  refine lv_bipush (v := (8 : Int32)) X.1 X.2.1 dX9_rightsNow_18 (by decide) ?_
  refine lv_iand X.1 X.2.1 dX9_rightsNow_20 ?_
  refine lv_ior X.1 X.2.1 dX9_rightsNow_21 ?_
  obtain rfl := Option.some.inj h
  exact r_iret X M w dX9_rightsNow_22
/-! WalkHouseModel.way(III)I (W) -/
theorem hdX9_way : yX9_way.cls = RX9 ∧ yX9_way.cls ≠ "java/lang/invoke/MethodHandle" ∧ yX9_way.cls ≠ "java/lang/invoke/VarHandle" ∧ (parseMethodDescriptor yX9_way.desc).map (fun d => d.parameters.length) = some 3 := by decide +kernel
def fX9_way (mem : Mm) (a1 : Int32) (a2 : Int32) (a3 : Int32) : Option (Mm × Int32) :=
  wk mem 0 0 (0 : Int32) (fun m1 => if (fX9_isSpace a1) = 0 then some (m1, (-1 : Int32)) else if (fX9_isAddress a2) = 0 then some (m1, (-1 : Int32)) else if (fX9_within a3 (0 : Int32) (3 : Int32)) = 0 then some (m1, (-1 : Int32)) else bw (fX9_frameNow m1 a1 a2) (fun m6 r5 => if a3 = 0 then some (m6, r5) else if 0 ≤ r5 then if a3 = (1 : Int32) then some (m6, (m6 0 18)) else if a3 = (2 : Int32) then bd (fX9_rightsNow m6) (fun r12 => some (m6, r12)) else gd ((96 : Int32) + (m6 0 17)) 345 (some (m6, (m6 1 ((96 : Int32) + (m6 0 17)).toNatClampNeg))) else some (m6, (-1 : Int32))))
set_option maxRecDepth 100000 in
set_option maxHeartbeats 4000000 in
theorem kX9_way (l : Launch) (D : va_G) (ca : Nat → ClassId) (ad : Nat → Nat) (mem : Mm) (a1 : Int32) (a2 : Int32) (a3 : Int32)  {mem' : Mm} {r : Int32} (h : fX9_way mem a1 a2 a3 = some (mem', r)) : CtI l yX9_way cX9_way 5 (some .int) (rmx 4 91) D ca ad layM mem [.ref (ad 0), .int a1, .int a2, .int a3] mem' r := by
  refine CtI.of (by decide) (Nat.le_of_ble_eq_true rfl) ?_
  intro p e s m args below meth c H locs ls X M w hl
  replace X : CallFix p m c cX9_way 5 s args TT RX9 := X
  replace hl : lv_has ls 5 [(0, .ref (ad 0)), (1, .int a1), (2, .int a2), (3, .int a3)] := hl
  unfold fX9_way at h
  refine lv_aload_n X.1 X.2.1 dX9_way_0 rfl (lv_at hl 0 rfl) ?_
  refine lv_iconst (v := (0 : Int32)) X.1 X.2.1 dX9_way_1 (by decide) ?_
  refine r_put X w lyM_0 rfl inT9 tyX9 tyX9_ok nmX9 0 rfl (by decide) rfl rfl tw_902 rfl rfl dX9_way_2 (fun H locs w => ?_)
  obtain ⟨m1, em1, h⟩ := wk_some h
  rw [em1] at w
  refine lv_iload_n X.1 X.2.1 dX9_way_5 rfl (lv_at hl 1 rfl) ?_
  refine r_cSi (As := [.int a1]) (rest := []) X w (kX9_isSpace  l D ca ad m1 a1  rfl) (gTS tw_1004 tw_1005 tw_75 tw_1006) hdX9_isSpace (by decide) rfl hl.1 rfl (Nat.le_of_ble_eq_true rfl) dX9_way_6 ⟨Nat.zero_le _, Nat.zero_le _⟩ (fun H locs w => ?_)
  refine lv_if_eq (tgt := 28) X.1 X.2.1 dX9_way_9 (by decide) (fun c2 => ?_) (fun c2 => ?_)
  · rw [if_pos c2] at h
    refine lv_iconst (v := (-1 : Int32)) X.1 X.2.1 dX9_way_28 (by decide) ?_
    obtain ⟨rfl, rfl⟩ := Prod.mk.inj (Option.some.inj h)
    exact r_iret X M w dX9_way_29
  · rw [if_neg c2] at h
    refine lv_iload_n X.1 X.2.1 dX9_way_12 rfl (lv_at hl 2 rfl) ?_
    refine r_cSi (As := [.int a2]) (rest := []) X w (kX9_isAddress  l D ca ad m1 a2  rfl) (gTS tw_1043 tw_1044 tw_75 tw_1045) hdX9_isAddress (by decide) rfl hl.1 rfl (Nat.le_of_ble_eq_true rfl) dX9_way_13 ⟨Nat.zero_le _, Nat.zero_le _⟩ (fun H locs w => ?_)
    refine lv_if_eq (tgt := 28) X.1 X.2.1 dX9_way_16 (by decide) (fun c3 => ?_) (fun c3 => ?_)
    · rw [if_pos c3] at h
      refine lv_iconst (v := (-1 : Int32)) X.1 X.2.1 dX9_way_28 (by decide) ?_
      obtain ⟨rfl, rfl⟩ := Prod.mk.inj (Option.some.inj h)
      exact r_iret X M w dX9_way_29
    · rw [if_neg c3] at h
      refine lv_iload_n X.1 X.2.1 dX9_way_19 rfl (lv_at hl 3 rfl) ?_
      refine lv_iconst (v := (0 : Int32)) X.1 X.2.1 dX9_way_20 (by decide) ?_
      refine lv_iconst (v := (3 : Int32)) X.1 X.2.1 dX9_way_21 (by decide) ?_
      refine r_cSi (As := [.int a3, .int (0 : Int32), .int (3 : Int32)]) (rest := []) X w (kX9_within  l D ca ad m1 a3 (0 : Int32) (3 : Int32)  rfl) (gTS tw_983 tw_984 tw_75 tw_985) hdX9_within (by decide) rfl hl.1 rfl (Nat.le_of_ble_eq_true rfl) dX9_way_22 ⟨Nat.zero_le _, Nat.zero_le _⟩ (fun H locs w => ?_)
      refine lv_if_ne (tgt := 30) X.1 X.2.1 dX9_way_25 (by decide) (fun c4 => ?_) (fun c4 => ?_)
      · rw [if_neg c4] at h
        refine lv_aload_n X.1 X.2.1 dX9_way_30 rfl (lv_at hl 0 rfl) ?_
        refine lv_iload_n X.1 X.2.1 dX9_way_31 rfl (lv_at hl 1 rfl) ?_
        refine lv_iload_n X.1 X.2.1 dX9_way_32 rfl (lv_at hl 2 rfl) ?_
        obtain ⟨m6, r5, hr5, h⟩ := bw_some h
        refine r_cVi (As := [.int a1, .int a2]) (rest := []) X w lyM_0 rfl (kX9_frameNow  l D ca ad m1 a1 a2  hr5) (gTV tw_1150 tw_1152 tw_49 tw_75 tw_1153) hdX9_frameNow (by decide) rfl hl.1 rfl (Nat.le_of_ble_eq_true rfl) dX9_way_33 ⟨Nat.zero_le _, Nat.zero_le _⟩ (fun H locs w => ?_)
        refine lv_istore (lv' := [(4, .int r5), (0, .ref (ad 0)), (1, .int a1), (2, .int a2), (3, .int a3)]) X.1 X.2.1 dX9_way_36 hl (by decide) rfl (fun ls hl => ?_)
        refine lv_iload_n X.1 X.2.1 dX9_way_38 rfl (lv_at hl 4 rfl) ?_
        refine lv_if_ne (tgt := 45) X.1 X.2.1 dX9_way_39 (by decide) (fun c7 => ?_) (fun c7 => ?_)
        · rw [if_neg c7] at h
          refine lv_iload X.1 X.2.1 dX9_way_45 (lv_at hl 0 rfl) ?_
          refine lv_if_ge (tgt := 54) X.1 X.2.1 dX9_way_47 (by decide) (fun c8 => ?_) (fun c8 => ?_)
          · rw [if_pos c8] at h
            refine lv_iload_n X.1 X.2.1 dX9_way_54 rfl (lv_at hl 4 rfl) ?_
            refine lv_iconst (v := (1 : Int32)) X.1 X.2.1 dX9_way_55 (by decide) ?_
            refine lv_icmp_ne (tgt := 66) X.1 X.2.1 dX9_way_56 (by decide) (fun c9 => ?_) (fun c9 => ?_)
            · rw [if_neg c9] at h
              refine lv_iload_n X.1 X.2.1 dX9_way_66 rfl (lv_at hl 4 rfl) ?_
              refine lv_iconst (v := (2 : Int32)) X.1 X.2.1 dX9_way_67 (by decide) ?_
              refine lv_icmp_ne (tgt := 78) X.1 X.2.1 dX9_way_68 (by decide) (fun c10 => ?_) (fun c10 => ?_)
              · rw [if_neg c10] at h
                refine lv_aload_n X.1 X.2.1 dX9_way_78 rfl (lv_at hl 1 rfl) ?_
                refine r_getr (b2 := 1) X w lyM_0 rfl inT9 1 rfl rfl (by decide) rfl tw_903 dX9_way_79 ?_
                refine lv_bipush (v := (96 : Int32)) X.1 X.2.1 dX9_way_82 (by decide) ?_
                refine lv_aload_n X.1 X.2.1 dX9_way_84 rfl (lv_at hl 1 rfl) ?_
                refine r_get X w lyM_0 rfl inT9 17 rfl (by decide) rfl tw_919 dX9_way_85 ?_
                refine lv_iadd X.1 X.2.1 dX9_way_88 ?_
                obtain ⟨hi11, h⟩ := gd_some h
                refine r_iald X w lyM_1 hi11 dX9_way_89 ?_
                obtain ⟨rfl, rfl⟩ := Prod.mk.inj (Option.some.inj h)
                exact r_iret X M w dX9_way_90
              · rw [if_pos c10] at h
                refine lv_aload_n X.1 X.2.1 dX9_way_71 rfl (lv_at hl 1 rfl) ?_
                obtain ⟨r12, hr12, h⟩ := bd_some h
                refine r_cVi (As := []) (rest := []) X w lyM_0 rfl (kX9_rightsNow  l D ca ad m6   hr12) (gTV tw_1158 tw_1160 tw_51 tw_75 tw_1161) hdX9_rightsNow (by decide) rfl hl.1 rfl (Nat.le_of_ble_eq_true rfl) dX9_way_72 ⟨Nat.zero_le _, Nat.zero_le _⟩ (fun H locs w => ?_)
                refine lv_goto (tgt := 90) X.1 X.2.1 dX9_way_75 (by decide) ?_
                obtain ⟨rfl, rfl⟩ := Prod.mk.inj (Option.some.inj h)
                exact r_iret X M w dX9_way_90
            · rw [if_pos c9] at h
              refine lv_aload_n X.1 X.2.1 dX9_way_59 rfl (lv_at hl 1 rfl) ?_
              refine r_get X w lyM_0 rfl inT9 18 rfl (by decide) rfl tw_920 dX9_way_60 ?_
              refine lv_goto (tgt := 90) X.1 X.2.1 dX9_way_63 (by decide) ?_
              obtain ⟨rfl, rfl⟩ := Prod.mk.inj (Option.some.inj h)
              exact r_iret X M w dX9_way_90
          · rw [if_neg c8] at h
            refine lv_iconst (v := (-1 : Int32)) X.1 X.2.1 dX9_way_50 (by decide) ?_
            refine lv_goto (tgt := 90) X.1 X.2.1 dX9_way_51 (by decide) ?_
            obtain ⟨rfl, rfl⟩ := Prod.mk.inj (Option.some.inj h)
            exact r_iret X M w dX9_way_90
        · rw [if_pos c7] at h
          refine lv_iload X.1 X.2.1 dX9_way_42 (lv_at hl 0 rfl) ?_
          obtain ⟨rfl, rfl⟩ := Prod.mk.inj (Option.some.inj h)
          exact r_iret X M w dX9_way_44
      · rw [if_pos c4] at h
        refine lv_iconst (v := (-1 : Int32)) X.1 X.2.1 dX9_way_28 (by decide) ?_
        obtain ⟨rfl, rfl⟩ := Prod.mk.inj (Option.some.inj h)
        exact r_iret X M w dX9_way_29
/-! WalkHouseModel.of(III)I (W) -/
theorem hdX9_of : yX9_of.cls = RX9 ∧ yX9_of.cls ≠ "java/lang/invoke/MethodHandle" ∧ yX9_of.cls ≠ "java/lang/invoke/VarHandle" ∧ (parseMethodDescriptor yX9_of.desc).map (fun d => d.parameters.length) = some 3 := by decide +kernel
def fX9_of (mem : Mm) (a1 : Int32) (a2 : Int32) (a3 : Int32) : Option (Mm × Int32) :=
  wk mem 0 0 (0 : Int32) (fun m1 => if (fX9_isEntry a1 a2) = 0 then some (m1, (-1 : Int32)) else if (fX9_within a3 (0 : Int32) (3 : Int32)) = 0 then some (m1, (-1 : Int32)) else gd (((0 : Int32) + ((8 : Int32) * a1)) + a2) 345 (lk (m1 1 (((0 : Int32) + ((8 : Int32) * a1)) + a2).toNatClampNeg) (fun x_5 => if a3 = 0 then some (m1, (fX9_whatOf x_5)) else if (fX9_whatOf x_5) = 0 then some (m1, (-1 : Int32)) else if a3 = (1 : Int32) then some (m1, (fX9_targetOf x_5)) else if a3 = (2 : Int32) then some (m1, (fX9_rightsOf x_5)) else gd (((96 : Int32) + ((8 : Int32) * a1)) + a2) 345 (some (m1, (m1 1 (((96 : Int32) + ((8 : Int32) * a1)) + a2).toNatClampNeg))))))
set_option maxRecDepth 100000 in
set_option maxHeartbeats 4000000 in
theorem kX9_of (l : Launch) (D : va_G) (ca : Nat → ClassId) (ad : Nat → Nat) (mem : Mm) (a1 : Int32) (a2 : Int32) (a3 : Int32)  {mem' : Mm} {r : Int32} (h : fX9_of mem a1 a2 a3 = some (mem', r)) : CtI l yX9_of cX9_of 5 (some .int) (rmx 2 43) D ca ad layM mem [.ref (ad 0), .int a1, .int a2, .int a3] mem' r := by
  refine CtI.of (by decide) (Nat.le_of_ble_eq_true rfl) ?_
  intro p e s m args below meth c H locs ls X M w hl
  replace X : CallFix p m c cX9_of 5 s args TT RX9 := X
  replace hl : lv_has ls 5 [(0, .ref (ad 0)), (1, .int a1), (2, .int a2), (3, .int a3)] := hl
  unfold fX9_of at h
  refine lv_aload_n X.1 X.2.1 dX9_of_0 rfl (lv_at hl 0 rfl) ?_
  refine lv_iconst (v := (0 : Int32)) X.1 X.2.1 dX9_of_1 (by decide) ?_
  refine r_put X w lyM_0 rfl inT9 tyX9 tyX9_ok nmX9 0 rfl (by decide) rfl rfl tw_902 rfl rfl dX9_of_2 (fun H locs w => ?_)
  obtain ⟨m1, em1, h⟩ := wk_some h
  rw [em1] at w
  refine lv_iload_n X.1 X.2.1 dX9_of_5 rfl (lv_at hl 1 rfl) ?_
  refine lv_iload_n X.1 X.2.1 dX9_of_6 rfl (lv_at hl 2 rfl) ?_
  refine r_cSi (As := [.int a1, .int a2]) (rest := []) X w (kX9_isEntry  l D ca ad m1 a1 a2  rfl) (gTS tw_986 tw_987 tw_75 tw_988) hdX9_isEntry (by decide) rfl hl.1 rfl (Nat.le_of_ble_eq_true rfl) dX9_of_7 ⟨Nat.zero_le _, Nat.zero_le _⟩ (fun H locs w => ?_)
  refine lv_if_eq (tgt := 22) X.1 X.2.1 dX9_of_10 (by decide) (fun c2 => ?_) (fun c2 => ?_)
  · rw [if_pos c2] at h
    refine lv_iconst (v := (-1 : Int32)) X.1 X.2.1 dX9_of_22 (by decide) ?_
    obtain ⟨rfl, rfl⟩ := Prod.mk.inj (Option.some.inj h)
    exact r_iret X M w dX9_of_23
  · rw [if_neg c2] at h
    refine lv_iload_n X.1 X.2.1 dX9_of_13 rfl (lv_at hl 3 rfl) ?_
    refine lv_iconst (v := (0 : Int32)) X.1 X.2.1 dX9_of_14 (by decide) ?_
    refine lv_iconst (v := (3 : Int32)) X.1 X.2.1 dX9_of_15 (by decide) ?_
    refine r_cSi (As := [.int a3, .int (0 : Int32), .int (3 : Int32)]) (rest := []) X w (kX9_within  l D ca ad m1 a3 (0 : Int32) (3 : Int32)  rfl) (gTS tw_983 tw_984 tw_75 tw_985) hdX9_within (by decide) rfl hl.1 rfl (Nat.le_of_ble_eq_true rfl) dX9_of_16 ⟨Nat.zero_le _, Nat.zero_le _⟩ (fun H locs w => ?_)
    refine lv_if_ne (tgt := 24) X.1 X.2.1 dX9_of_19 (by decide) (fun c3 => ?_) (fun c3 => ?_)
    · rw [if_neg c3] at h
      refine lv_aload_n X.1 X.2.1 dX9_of_24 rfl (lv_at hl 0 rfl) ?_
      refine r_getr (b2 := 1) X w lyM_0 rfl inT9 1 rfl rfl (by decide) rfl tw_903 dX9_of_25 ?_
      refine lv_iconst (v := (0 : Int32)) X.1 X.2.1 dX9_of_28 (by decide) ?_
      refine lv_bipush (v := (8 : Int32)) X.1 X.2.1 dX9_of_29 (by decide) ?_
      refine lv_iload_n X.1 X.2.1 dX9_of_31 rfl (lv_at hl 1 rfl) ?_
      refine lv_imul X.1 X.2.1 dX9_of_32 ?_
      refine lv_iadd X.1 X.2.1 dX9_of_33 ?_
      refine lv_iload_n X.1 X.2.1 dX9_of_34 rfl (lv_at hl 2 rfl) ?_
      refine lv_iadd X.1 X.2.1 dX9_of_35 ?_
      obtain ⟨hi4, h⟩ := gd_some h
      refine r_iald X w lyM_1 hi4 dX9_of_36 ?_
      obtain ⟨x_5, ex_5, h⟩ := lk_some h
      refine lv_name ex_5 ?_
      refine lv_istore (lv' := [(4, .int x_5), (0, .ref (ad 0)), (1, .int a1), (2, .int a2), (3, .int a3)]) X.1 X.2.1 dX9_of_37 hl (by decide) rfl (fun ls hl => ?_)
      refine lv_iload_n X.1 X.2.1 dX9_of_39 rfl (lv_at hl 4 rfl) ?_
      refine lv_if_ne (tgt := 49) X.1 X.2.1 dX9_of_40 (by decide) (fun c6 => ?_) (fun c6 => ?_)
      · rw [if_neg c6] at h
        refine lv_iload X.1 X.2.1 dX9_of_49 (lv_at hl 0 rfl) ?_
        refine r_cSi (As := [.int x_5]) (rest := []) X w (kX9_whatOf  l D ca ad m1 x_5  rfl) (gTS tw_993 tw_994 tw_75 tw_995) hdX9_whatOf (by decide) rfl hl.1 rfl (Nat.le_of_ble_eq_true rfl) dX9_of_51 ⟨Nat.zero_le _, Nat.zero_le _⟩ (fun H locs w => ?_)
        refine lv_if_ne (tgt := 59) X.1 X.2.1 dX9_of_54 (by decide) (fun c7 => ?_) (fun c7 => ?_)
        · rw [if_neg c7] at h
          refine lv_iload_n X.1 X.2.1 dX9_of_59 rfl (lv_at hl 4 rfl) ?_
          refine lv_iconst (v := (1 : Int32)) X.1 X.2.1 dX9_of_60 (by decide) ?_
          refine lv_icmp_ne (tgt := 72) X.1 X.2.1 dX9_of_61 (by decide) (fun c8 => ?_) (fun c8 => ?_)
          · rw [if_neg c8] at h
            refine lv_iload_n X.1 X.2.1 dX9_of_72 rfl (lv_at hl 4 rfl) ?_
            refine lv_iconst (v := (2 : Int32)) X.1 X.2.1 dX9_of_73 (by decide) ?_
            refine lv_icmp_ne (tgt := 85) X.1 X.2.1 dX9_of_74 (by decide) (fun c9 => ?_) (fun c9 => ?_)
            · rw [if_neg c9] at h
              refine lv_aload_n X.1 X.2.1 dX9_of_85 rfl (lv_at hl 1 rfl) ?_
              refine r_getr (b2 := 1) X w lyM_0 rfl inT9 1 rfl rfl (by decide) rfl tw_903 dX9_of_86 ?_
              refine lv_bipush (v := (96 : Int32)) X.1 X.2.1 dX9_of_89 (by decide) ?_
              refine lv_bipush (v := (8 : Int32)) X.1 X.2.1 dX9_of_91 (by decide) ?_
              refine lv_iload_n X.1 X.2.1 dX9_of_93 rfl (lv_at hl 2 rfl) ?_
              refine lv_imul X.1 X.2.1 dX9_of_94 ?_
              refine lv_iadd X.1 X.2.1 dX9_of_95 ?_
              refine lv_iload_n X.1 X.2.1 dX9_of_96 rfl (lv_at hl 3 rfl) ?_
              refine lv_iadd X.1 X.2.1 dX9_of_97 ?_
              obtain ⟨hi10, h⟩ := gd_some h
              refine r_iald X w lyM_1 hi10 dX9_of_98 ?_
              obtain ⟨rfl, rfl⟩ := Prod.mk.inj (Option.some.inj h)
              exact r_iret X M w dX9_of_99
            · rw [if_pos c9] at h
              refine lv_iload X.1 X.2.1 dX9_of_77 (lv_at hl 0 rfl) ?_
              refine r_cSi (As := [.int x_5]) (rest := []) X w (kX9_rightsOf  l D ca ad m1 x_5  rfl) (gTS tw_1084 tw_1085 tw_75 tw_1086) hdX9_rightsOf (by decide) rfl hl.1 rfl (Nat.le_of_ble_eq_true rfl) dX9_of_79 ⟨Nat.zero_le _, Nat.zero_le _⟩ (fun H locs w => ?_)
              refine lv_goto (tgt := 99) X.1 X.2.1 dX9_of_82 (by decide) ?_
              obtain ⟨rfl, rfl⟩ := Prod.mk.inj (Option.some.inj h)
              exact r_iret X M w dX9_of_99
          · rw [if_pos c8] at h
            refine lv_iload X.1 X.2.1 dX9_of_64 (lv_at hl 0 rfl) ?_
            refine r_cSi (As := [.int x_5]) (rest := []) X w (kX9_targetOf  l D ca ad m1 x_5  rfl) (gTS tw_1087 tw_1088 tw_75 tw_1089) hdX9_targetOf (by decide) rfl hl.1 rfl (Nat.le_of_ble_eq_true rfl) dX9_of_66 ⟨Nat.zero_le _, Nat.zero_le _⟩ (fun H locs w => ?_)
            refine lv_goto (tgt := 99) X.1 X.2.1 dX9_of_69 (by decide) ?_
            obtain ⟨rfl, rfl⟩ := Prod.mk.inj (Option.some.inj h)
            exact r_iret X M w dX9_of_99
        · rw [if_pos c7] at h
          refine lv_iconst (v := (-1 : Int32)) X.1 X.2.1 dX9_of_57 (by decide) ?_
          obtain ⟨rfl, rfl⟩ := Prod.mk.inj (Option.some.inj h)
          exact r_iret X M w dX9_of_58
      · rw [if_pos c6] at h
        refine lv_iload X.1 X.2.1 dX9_of_43 (lv_at hl 0 rfl) ?_
        refine r_cSi (As := [.int x_5]) (rest := []) X w (kX9_whatOf  l D ca ad m1 x_5  rfl) (gTS tw_993 tw_994 tw_75 tw_995) hdX9_whatOf (by decide) rfl hl.1 rfl (Nat.le_of_ble_eq_true rfl) dX9_of_45 ⟨Nat.zero_le _, Nat.zero_le _⟩ (fun H locs w => ?_)
        obtain ⟨rfl, rfl⟩ := Prod.mk.inj (Option.some.inj h)
        exact r_iret X M w dX9_of_48
    · rw [if_pos c3] at h
      refine lv_iconst (v := (-1 : Int32)) X.1 X.2.1 dX9_of_22 (by decide) ?_
      obtain ⟨rfl, rfl⟩ := Prod.mk.inj (Option.some.inj h)
      exact r_iret X M w dX9_of_23
/-! WalkHouseModel.isStale(I)Z (W) -/
theorem hdX9_isStale : yX9_isStale.cls = RX9 ∧ yX9_isStale.cls ≠ "java/lang/invoke/MethodHandle" ∧ yX9_isStale.cls ≠ "java/lang/invoke/VarHandle" ∧ (parseMethodDescriptor yX9_isStale.desc).map (fun d => d.parameters.length) = some 1 := by decide +kernel
def fX9_isStale (mem : Mm) (a1 : Int32) : Option (Mm × Int32) :=
  gd a1 345 (bd (fX9_holder mem (mem 1 a1.toNatClampNeg)) (fun r2 => gd (a1 + (2 : Int32)) 345 (bw (fX9_walksNow mem r2 (mem 1 (a1 + (2 : Int32)).toNatClampNeg) (0 : Int32)) (fun m5 r4 => if 0 < r4 then some (m5, (1 : Int32)) else gd (a1 + (1 : Int32)) 345 (if (m5 0 18) = (m5 1 (a1 + (1 : Int32)).toNatClampNeg) then gd ((0 : Int32) + (m5 0 17)) 345 (gd (a1 + (3 : Int32)) 345 (if (fX9_targetOf (m5 1 ((0 : Int32) + (m5 0 17)).toNatClampNeg)) = (m5 1 (a1 + (3 : Int32)).toNatClampNeg) then bd (fX9_rightsNow m5) (fun r12 => gd (a1 + (4 : Int32)) 345 (if r12 = (m5 1 (a1 + (4 : Int32)).toNatClampNeg) then some (m5, (0 : Int32)) else some (m5, (1 : Int32)))) else some (m5, (1 : Int32)))) else some (m5, (1 : Int32)))))))
set_option maxRecDepth 100000 in
set_option maxHeartbeats 4000000 in
theorem kX9_isStale (l : Launch) (D : va_G) (ca : Nat → ClassId) (ad : Nat → Nat) (mem : Mm) (a1 : Int32)  {mem' : Mm} {r : Int32} (h : fX9_isStale mem a1 = some (mem', r)) : CtI l yX9_isStale cX9_isStale 3 (some .boolean) (rmx 3 68) D ca ad layM mem [.ref (ad 0), .int a1] mem' r := by
  refine CtI.of (by decide) (Nat.le_of_ble_eq_true rfl) ?_
  intro p e s m args below meth c H locs ls X M w hl
  replace X : CallFix p m c cX9_isStale 3 s args TT RX9 := X
  replace hl : lv_has ls 3 [(0, .ref (ad 0)), (1, .int a1)] := hl
  unfold fX9_isStale at h
  refine lv_aload_n X.1 X.2.1 dX9_isStale_0 rfl (lv_at hl 0 rfl) ?_
  refine lv_aload_n X.1 X.2.1 dX9_isStale_1 rfl (lv_at hl 0 rfl) ?_
  refine lv_aload_n X.1 X.2.1 dX9_isStale_2 rfl (lv_at hl 0 rfl) ?_
  refine r_getr (b2 := 1) X w lyM_0 rfl inT9 1 rfl rfl (by decide) rfl tw_903 dX9_isStale_3 ?_
  refine lv_iload_n X.1 X.2.1 dX9_isStale_6 rfl (lv_at hl 1 rfl) ?_
  obtain ⟨hi1, h⟩ := gd_some h
  refine r_iald X w lyM_1 hi1 dX9_isStale_7 ?_
  obtain ⟨r2, hr2, h⟩ := bd_some h
  refine r_cVi (As := [.int (mem 1 a1.toNatClampNeg)]) (rest := [.ref (ad 0)]) X w lyM_0 rfl (kX9_holder  l D ca ad mem (mem 1 a1.toNatClampNeg)  hr2) (gTV tw_1015 tw_1017 tw_29 tw_75 tw_1018) hdX9_holder (by decide) rfl hl.1 rfl (Nat.le_of_ble_eq_true rfl) dX9_isStale_8 ⟨Nat.zero_le _, Nat.zero_le _⟩ (fun H locs w => ?_)
  refine lv_aload_n X.1 X.2.1 dX9_isStale_11 rfl (lv_at hl 0 rfl) ?_
  refine r_getr (b2 := 1) X w lyM_0 rfl inT9 1 rfl rfl (by decide) rfl tw_903 dX9_isStale_12 ?_
  refine lv_iload_n X.1 X.2.1 dX9_isStale_15 rfl (lv_at hl 1 rfl) ?_
  refine lv_iconst (v := (2 : Int32)) X.1 X.2.1 dX9_isStale_16 (by decide) ?_
  refine lv_iadd X.1 X.2.1 dX9_isStale_17 ?_
  obtain ⟨hi3, h⟩ := gd_some h
  refine r_iald X w lyM_1 hi3 dX9_isStale_18 ?_
  refine lv_iconst (v := (0 : Int32)) X.1 X.2.1 dX9_isStale_19 (by decide) ?_
  obtain ⟨m5, r4, hr4, h⟩ := bw_some h
  refine r_cVi (As := [.int r2, .int (mem 1 (a1 + (2 : Int32)).toNatClampNeg), .int (0 : Int32)]) (rest := []) X w lyM_0 rfl (kX9_walksNow  l D ca ad mem r2 (mem 1 (a1 + (2 : Int32)).toNatClampNeg) (0 : Int32)  hr4) (gTV tw_1154 tw_1156 tw_50 tw_75 tw_1157) hdX9_walksNow (by decide) rfl hl.1 rfl (Nat.le_of_ble_eq_true rfl) dX9_isStale_20 ⟨Nat.zero_le _, Nat.zero_le _⟩ (fun H locs w => ?_)
  refine lv_istore_n (lv' := [(2, .int r4), (0, .ref (ad 0)), (1, .int a1)]) X.1 X.2.1 dX9_isStale_23 rfl hl (by decide) rfl (fun ls hl => ?_)
  refine lv_iload_n X.1 X.2.1 dX9_isStale_24 rfl (lv_at hl 0 rfl) ?_
  refine lv_if_gt (tgt := 83) X.1 X.2.1 dX9_isStale_25 (by decide) (fun c6 => ?_) (fun c6 => ?_)
  · rw [if_pos c6] at h
    refine lv_iconst (v := (1 : Int32)) X.1 X.2.1 dX9_isStale_83 (by decide) ?_
    refine lv_goto (tgt := 88) X.1 X.2.1 dX9_isStale_84 (by decide) ?_
    obtain ⟨rfl, rfl⟩ := Prod.mk.inj (Option.some.inj h)
    exact r_zret X M w (by decide) dX9_isStale_88
  · rw [if_neg c6] at h
    refine lv_aload_n X.1 X.2.1 dX9_isStale_28 rfl (lv_at hl 1 rfl) ?_
    refine r_get X w lyM_0 rfl inT9 18 rfl (by decide) rfl tw_920 dX9_isStale_29 ?_
    refine lv_aload_n X.1 X.2.1 dX9_isStale_32 rfl (lv_at hl 1 rfl) ?_
    refine r_getr (b2 := 1) X w lyM_0 rfl inT9 1 rfl rfl (by decide) rfl tw_903 dX9_isStale_33 ?_
    refine lv_iload_n X.1 X.2.1 dX9_isStale_36 rfl (lv_at hl 2 rfl) ?_
    refine lv_iconst (v := (1 : Int32)) X.1 X.2.1 dX9_isStale_37 (by decide) ?_
    refine lv_iadd X.1 X.2.1 dX9_isStale_38 ?_
    obtain ⟨hi7, h⟩ := gd_some h
    refine r_iald X w lyM_1 hi7 dX9_isStale_39 ?_
    refine lv_icmp_ne (tgt := 83) X.1 X.2.1 dX9_isStale_40 (by decide) (fun c8 => ?_) (fun c8 => ?_)
    · rw [if_neg c8] at h
      refine lv_iconst (v := (1 : Int32)) X.1 X.2.1 dX9_isStale_83 (by decide) ?_
      refine lv_goto (tgt := 88) X.1 X.2.1 dX9_isStale_84 (by decide) ?_
      obtain ⟨rfl, rfl⟩ := Prod.mk.inj (Option.some.inj h)
      exact r_zret X M w (by decide) dX9_isStale_88
    · rw [if_pos c8] at h
      refine lv_aload_n X.1 X.2.1 dX9_isStale_43 rfl (lv_at hl 1 rfl) ?_
      refine r_getr (b2 := 1) X w lyM_0 rfl inT9 1 rfl rfl (by decide) rfl tw_903 dX9_isStale_44 ?_
      refine lv_iconst (v := (0 : Int32)) X.1 X.2.1 dX9_isStale_47 (by decide) ?_
      refine lv_aload_n X.1 X.2.1 dX9_isStale_48 rfl (lv_at hl 1 rfl) ?_
      refine r_get X w lyM_0 rfl inT9 17 rfl (by decide) rfl tw_919 dX9_isStale_49 ?_
      refine lv_iadd X.1 X.2.1 dX9_isStale_52 ?_
      obtain ⟨hi9, h⟩ := gd_some h
      refine r_iald X w lyM_1 hi9 dX9_isStale_53 ?_
      refine r_cSi (As := [.int (m5 1 ((0 : Int32) + (m5 0 17)).toNatClampNeg)]) (rest := []) X w (kX9_targetOf  l D ca ad m5 (m5 1 ((0 : Int32) + (m5 0 17)).toNatClampNeg)  rfl) (gTS tw_1087 tw_1088 tw_75 tw_1089) hdX9_targetOf (by decide) rfl hl.1 rfl (Nat.le_of_ble_eq_true rfl) dX9_isStale_54 ⟨Nat.zero_le _, Nat.zero_le _⟩ (fun H locs w => ?_)
      refine lv_aload_n X.1 X.2.1 dX9_isStale_57 rfl (lv_at hl 1 rfl) ?_
      refine r_getr (b2 := 1) X w lyM_0 rfl inT9 1 rfl rfl (by decide) rfl tw_903 dX9_isStale_58 ?_
      refine lv_iload_n X.1 X.2.1 dX9_isStale_61 rfl (lv_at hl 2 rfl) ?_
      refine lv_iconst (v := (3 : Int32)) X.1 X.2.1 dX9_isStale_62 (by decide) ?_
      refine lv_iadd X.1 X.2.1 dX9_isStale_63 ?_
      obtain ⟨hi10, h⟩ := gd_some h
      refine r_iald X w lyM_1 hi10 dX9_isStale_64 ?_
      refine lv_icmp_ne (tgt := 83) X.1 X.2.1 dX9_isStale_65 (by decide) (fun c11 => ?_) (fun c11 => ?_)
      · rw [if_neg c11] at h
        refine lv_iconst (v := (1 : Int32)) X.1 X.2.1 dX9_isStale_83 (by decide) ?_
        refine lv_goto (tgt := 88) X.1 X.2.1 dX9_isStale_84 (by decide) ?_
        obtain ⟨rfl, rfl⟩ := Prod.mk.inj (Option.some.inj h)
        exact r_zret X M w (by decide) dX9_isStale_88
      · rw [if_pos c11] at h
        refine lv_aload_n X.1 X.2.1 dX9_isStale_68 rfl (lv_at hl 1 rfl) ?_
        obtain ⟨r12, hr12, h⟩ := bd_some h
        refine r_cVi (As := []) (rest := []) X w lyM_0 rfl (kX9_rightsNow  l D ca ad m5   hr12) (gTV tw_1158 tw_1160 tw_51 tw_75 tw_1161) hdX9_rightsNow (by decide) rfl hl.1 rfl (Nat.le_of_ble_eq_true rfl) dX9_isStale_69 ⟨Nat.zero_le _, Nat.zero_le _⟩ (fun H locs w => ?_)
        refine lv_aload_n X.1 X.2.1 dX9_isStale_72 rfl (lv_at hl 1 rfl) ?_
        refine r_getr (b2 := 1) X w lyM_0 rfl inT9 1 rfl rfl (by decide) rfl tw_903 dX9_isStale_73 ?_
        refine lv_iload_n X.1 X.2.1 dX9_isStale_76 rfl (lv_at hl 2 rfl) ?_
        refine lv_iconst (v := (4 : Int32)) X.1 X.2.1 dX9_isStale_77 (by decide) ?_
        refine lv_iadd X.1 X.2.1 dX9_isStale_78 ?_
        obtain ⟨hi13, h⟩ := gd_some h
        refine r_iald X w lyM_1 hi13 dX9_isStale_79 ?_
        refine lv_icmp_eq (tgt := 87) X.1 X.2.1 dX9_isStale_80 (by decide) (fun c14 => ?_) (fun c14 => ?_)
        · rw [if_pos c14] at h
          refine lv_iconst (v := (0 : Int32)) X.1 X.2.1 dX9_isStale_87 (by decide) ?_
          obtain ⟨rfl, rfl⟩ := Prod.mk.inj (Option.some.inj h)
          exact r_zret X M w (by decide) dX9_isStale_88
        · rw [if_neg c14] at h
          refine lv_iconst (v := (1 : Int32)) X.1 X.2.1 dX9_isStale_83 (by decide) ?_
          refine lv_goto (tgt := 88) X.1 X.2.1 dX9_isStale_84 (by decide) ?_
          obtain ⟨rfl, rfl⟩ := Prod.mk.inj (Option.some.inj h)
          exact r_zret X M w (by decide) dX9_isStale_88
/-! WalkHouseModel.isStaleAbove(I)Z (W) -/
theorem hdX9_isStaleAbove : yX9_isStaleAbove.cls = RX9 ∧ yX9_isStaleAbove.cls ≠ "java/lang/invoke/MethodHandle" ∧ yX9_isStaleAbove.cls ≠ "java/lang/invoke/VarHandle" ∧ (parseMethodDescriptor yX9_isStaleAbove.desc).map (fun d => d.parameters.length) = some 1 := by decide +kernel
def fX9_isStaleAbove (mem : Mm) (a1 : Int32) : Option (Mm × Int32) :=
  gd a1 345 (bd (fX9_holder mem (mem 1 a1.toNatClampNeg)) (fun r2 => gd (a1 + (2 : Int32)) 345 (gd (a1 + (1 : Int32)) 345 (bw (fX9_walksNow mem r2 (mem 1 (a1 + (2 : Int32)).toNatClampNeg) (mem 1 (a1 + (1 : Int32)).toNatClampNeg)) (fun m6 r5 => if r5 = (3 : Int32) then gd ((0 : Int32) + (m6 0 17)) 345 (gd (a1 + (3 : Int32)) 345 (if (fX9_targetOf (m6 1 ((0 : Int32) + (m6 0 17)).toNatClampNeg)) = (m6 1 (a1 + (3 : Int32)).toNatClampNeg) then gd (a1 + (4 : Int32)) 345 (if (m6 0 19) = (m6 1 (a1 + (4 : Int32)).toNatClampNeg) then some (m6, (0 : Int32)) else some (m6, (1 : Int32))) else some (m6, (1 : Int32)))) else some (m6, (1 : Int32)))))))
set_option maxRecDepth 100000 in
set_option maxHeartbeats 4000000 in
theorem kX9_isStaleAbove (l : Launch) (D : va_G) (ca : Nat → ClassId) (ad : Nat → Nat) (mem : Mm) (a1 : Int32)  {mem' : Mm} {r : Int32} (h : fX9_isStaleAbove mem a1 = some (mem', r)) : CtI l yX9_isStaleAbove cX9_isStaleAbove 3 (some .boolean) (rmx 3 68) D ca ad layM mem [.ref (ad 0), .int a1] mem' r := by
  refine CtI.of (by decide) (Nat.le_of_ble_eq_true rfl) ?_
  intro p e s m args below meth c H locs ls X M w hl
  replace X : CallFix p m c cX9_isStaleAbove 3 s args TT RX9 := X
  replace hl : lv_has ls 3 [(0, .ref (ad 0)), (1, .int a1)] := hl
  unfold fX9_isStaleAbove at h
  refine lv_aload_n X.1 X.2.1 dX9_isStaleAbove_0 rfl (lv_at hl 0 rfl) ?_
  refine lv_aload_n X.1 X.2.1 dX9_isStaleAbove_1 rfl (lv_at hl 0 rfl) ?_
  refine lv_aload_n X.1 X.2.1 dX9_isStaleAbove_2 rfl (lv_at hl 0 rfl) ?_
  refine r_getr (b2 := 1) X w lyM_0 rfl inT9 1 rfl rfl (by decide) rfl tw_903 dX9_isStaleAbove_3 ?_
  refine lv_iload_n X.1 X.2.1 dX9_isStaleAbove_6 rfl (lv_at hl 1 rfl) ?_
  obtain ⟨hi1, h⟩ := gd_some h
  refine r_iald X w lyM_1 hi1 dX9_isStaleAbove_7 ?_
  obtain ⟨r2, hr2, h⟩ := bd_some h
  refine r_cVi (As := [.int (mem 1 a1.toNatClampNeg)]) (rest := [.ref (ad 0)]) X w lyM_0 rfl (kX9_holder  l D ca ad mem (mem 1 a1.toNatClampNeg)  hr2) (gTV tw_1015 tw_1017 tw_29 tw_75 tw_1018) hdX9_holder (by decide) rfl hl.1 rfl (Nat.le_of_ble_eq_true rfl) dX9_isStaleAbove_8 ⟨Nat.zero_le _, Nat.zero_le _⟩ (fun H locs w => ?_)
  refine lv_aload_n X.1 X.2.1 dX9_isStaleAbove_11 rfl (lv_at hl 0 rfl) ?_
  refine r_getr (b2 := 1) X w lyM_0 rfl inT9 1 rfl rfl (by decide) rfl tw_903 dX9_isStaleAbove_12 ?_
  refine lv_iload_n X.1 X.2.1 dX9_isStaleAbove_15 rfl (lv_at hl 1 rfl) ?_
  refine lv_iconst (v := (2 : Int32)) X.1 X.2.1 dX9_isStaleAbove_16 (by decide) ?_
  refine lv_iadd X.1 X.2.1 dX9_isStaleAbove_17 ?_
  obtain ⟨hi3, h⟩ := gd_some h
  refine r_iald X w lyM_1 hi3 dX9_isStaleAbove_18 ?_
  refine lv_aload_n X.1 X.2.1 dX9_isStaleAbove_19 rfl (lv_at hl 0 rfl) ?_
  refine r_getr (b2 := 1) X w lyM_0 rfl inT9 1 rfl rfl (by decide) rfl tw_903 dX9_isStaleAbove_20 ?_
  refine lv_iload_n X.1 X.2.1 dX9_isStaleAbove_23 rfl (lv_at hl 1 rfl) ?_
  refine lv_iconst (v := (1 : Int32)) X.1 X.2.1 dX9_isStaleAbove_24 (by decide) ?_
  refine lv_iadd X.1 X.2.1 dX9_isStaleAbove_25 ?_
  obtain ⟨hi4, h⟩ := gd_some h
  refine r_iald X w lyM_1 hi4 dX9_isStaleAbove_26 ?_
  obtain ⟨m6, r5, hr5, h⟩ := bw_some h
  refine r_cVi (As := [.int r2, .int (mem 1 (a1 + (2 : Int32)).toNatClampNeg), .int (mem 1 (a1 + (1 : Int32)).toNatClampNeg)]) (rest := []) X w lyM_0 rfl (kX9_walksNow  l D ca ad mem r2 (mem 1 (a1 + (2 : Int32)).toNatClampNeg) (mem 1 (a1 + (1 : Int32)).toNatClampNeg)  hr5) (gTV tw_1154 tw_1156 tw_50 tw_75 tw_1157) hdX9_walksNow (by decide) rfl hl.1 rfl (Nat.le_of_ble_eq_true rfl) dX9_isStaleAbove_27 ⟨Nat.zero_le _, Nat.zero_le _⟩ (fun H locs w => ?_)
  refine lv_istore_n (lv' := [(2, .int r5), (0, .ref (ad 0)), (1, .int a1)]) X.1 X.2.1 dX9_isStaleAbove_30 rfl hl (by decide) rfl (fun ls hl => ?_)
  refine lv_iload_n X.1 X.2.1 dX9_isStaleAbove_31 rfl (lv_at hl 0 rfl) ?_
  refine lv_iconst (v := (3 : Int32)) X.1 X.2.1 dX9_isStaleAbove_32 (by decide) ?_
  refine lv_icmp_ne (tgt := 76) X.1 X.2.1 dX9_isStaleAbove_33 (by decide) (fun c7 => ?_) (fun c7 => ?_)
  · rw [if_neg c7] at h
    refine lv_iconst (v := (1 : Int32)) X.1 X.2.1 dX9_isStaleAbove_76 (by decide) ?_
    refine lv_goto (tgt := 81) X.1 X.2.1 dX9_isStaleAbove_77 (by decide) ?_
    obtain ⟨rfl, rfl⟩ := Prod.mk.inj (Option.some.inj h)
    exact r_zret X M w (by decide) dX9_isStaleAbove_81
  · rw [if_pos c7] at h
    refine lv_aload_n X.1 X.2.1 dX9_isStaleAbove_36 rfl (lv_at hl 1 rfl) ?_
    refine r_getr (b2 := 1) X w lyM_0 rfl inT9 1 rfl rfl (by decide) rfl tw_903 dX9_isStaleAbove_37 ?_
    refine lv_iconst (v := (0 : Int32)) X.1 X.2.1 dX9_isStaleAbove_40 (by decide) ?_
    refine lv_aload_n X.1 X.2.1 dX9_isStaleAbove_41 rfl (lv_at hl 1 rfl) ?_
    refine r_get X w lyM_0 rfl inT9 17 rfl (by decide) rfl tw_919 dX9_isStaleAbove_42 ?_
    refine lv_iadd X.1 X.2.1 dX9_isStaleAbove_45 ?_
    obtain ⟨hi8, h⟩ := gd_some h
    refine r_iald X w lyM_1 hi8 dX9_isStaleAbove_46 ?_
    refine r_cSi (As := [.int (m6 1 ((0 : Int32) + (m6 0 17)).toNatClampNeg)]) (rest := []) X w (kX9_targetOf  l D ca ad m6 (m6 1 ((0 : Int32) + (m6 0 17)).toNatClampNeg)  rfl) (gTS tw_1087 tw_1088 tw_75 tw_1089) hdX9_targetOf (by decide) rfl hl.1 rfl (Nat.le_of_ble_eq_true rfl) dX9_isStaleAbove_47 ⟨Nat.zero_le _, Nat.zero_le _⟩ (fun H locs w => ?_)
    refine lv_aload_n X.1 X.2.1 dX9_isStaleAbove_50 rfl (lv_at hl 1 rfl) ?_
    refine r_getr (b2 := 1) X w lyM_0 rfl inT9 1 rfl rfl (by decide) rfl tw_903 dX9_isStaleAbove_51 ?_
    refine lv_iload_n X.1 X.2.1 dX9_isStaleAbove_54 rfl (lv_at hl 2 rfl) ?_
    refine lv_iconst (v := (3 : Int32)) X.1 X.2.1 dX9_isStaleAbove_55 (by decide) ?_
    refine lv_iadd X.1 X.2.1 dX9_isStaleAbove_56 ?_
    obtain ⟨hi9, h⟩ := gd_some h
    refine r_iald X w lyM_1 hi9 dX9_isStaleAbove_57 ?_
    refine lv_icmp_ne (tgt := 76) X.1 X.2.1 dX9_isStaleAbove_58 (by decide) (fun c10 => ?_) (fun c10 => ?_)
    · rw [if_neg c10] at h
      refine lv_iconst (v := (1 : Int32)) X.1 X.2.1 dX9_isStaleAbove_76 (by decide) ?_
      refine lv_goto (tgt := 81) X.1 X.2.1 dX9_isStaleAbove_77 (by decide) ?_
      obtain ⟨rfl, rfl⟩ := Prod.mk.inj (Option.some.inj h)
      exact r_zret X M w (by decide) dX9_isStaleAbove_81
    · rw [if_pos c10] at h
      refine lv_aload_n X.1 X.2.1 dX9_isStaleAbove_61 rfl (lv_at hl 1 rfl) ?_
      refine r_get X w lyM_0 rfl inT9 19 rfl (by decide) rfl tw_921 dX9_isStaleAbove_62 ?_
      refine lv_aload_n X.1 X.2.1 dX9_isStaleAbove_65 rfl (lv_at hl 1 rfl) ?_
      refine r_getr (b2 := 1) X w lyM_0 rfl inT9 1 rfl rfl (by decide) rfl tw_903 dX9_isStaleAbove_66 ?_
      refine lv_iload_n X.1 X.2.1 dX9_isStaleAbove_69 rfl (lv_at hl 2 rfl) ?_
      refine lv_iconst (v := (4 : Int32)) X.1 X.2.1 dX9_isStaleAbove_70 (by decide) ?_
      refine lv_iadd X.1 X.2.1 dX9_isStaleAbove_71 ?_
      obtain ⟨hi11, h⟩ := gd_some h
      refine r_iald X w lyM_1 hi11 dX9_isStaleAbove_72 ?_
      refine lv_icmp_eq (tgt := 80) X.1 X.2.1 dX9_isStaleAbove_73 (by decide) (fun c12 => ?_) (fun c12 => ?_)
      · rw [if_pos c12] at h
        refine lv_iconst (v := (0 : Int32)) X.1 X.2.1 dX9_isStaleAbove_80 (by decide) ?_
        obtain ⟨rfl, rfl⟩ := Prod.mk.inj (Option.some.inj h)
        exact r_zret X M w (by decide) dX9_isStaleAbove_81
      · rw [if_neg c12] at h
        refine lv_iconst (v := (1 : Int32)) X.1 X.2.1 dX9_isStaleAbove_76 (by decide) ?_
        refine lv_goto (tgt := 81) X.1 X.2.1 dX9_isStaleAbove_77 (by decide) ?_
        obtain ⟨rfl, rfl⟩ := Prod.mk.inj (Option.some.inj h)
        exact r_zret X M w (by decide) dX9_isStaleAbove_81
/-! WalkHouseModel.usedLater(II)I (R) -/
theorem hdX9_usedLater : yX9_usedLater.cls = RX9 ∧ yX9_usedLater.cls ≠ "java/lang/invoke/MethodHandle" ∧ yX9_usedLater.cls ≠ "java/lang/invoke/VarHandle" ∧ (parseMethodDescriptor yX9_usedLater.desc).map (fun d => d.parameters.length) = some 2 := by decide +kernel
def fX9_usedLater_b5_s  (k5 : Mm → Int32 → Int32 → Int32 → Int32 → Option Int32) (mem : Mm) (x1 : Int32) (x2 : Int32) (x3 : Int32) (x4 : Int32) : Option Int32 :=
  if (6 : Int32) ≤ x4 then some x3 else lk (x1 + ((7 : Int32) * x4)) (fun x_2 => bd (fX9_isEmpty mem x_2) (fun r3 => if r3 = 0 then gd (x_2 + (6 : Int32)) 345 (gd (x2 + (6 : Int32)) 345 (if (mem 1 (x_2 + (6 : Int32)).toNatClampNeg) ≤ (mem 1 (x2 + (6 : Int32)).toNatClampNeg) then lk (x3 + (0 : Int32)) (fun x_9 => k5 mem x1 x2 x_9 (x4 + (1 : Int32))) else lk (x3 + (1 : Int32)) (fun x_10 => k5 mem x1 x2 x_10 (x4 + (1 : Int32))))) else lk (x3 + (0 : Int32)) (fun x_5 => k5 mem x1 x2 x_5 (x4 + (1 : Int32)))))
def fX9_usedLater_b5  : Nat → Mm → Int32 → Int32 → Int32 → Int32 → Option Int32
  | 0 => fun _ _ _ _ _ => none
  | n + 1 => fX9_usedLater_b5_s  (fX9_usedLater_b5  n)
set_option maxRecDepth 100000 in
set_option maxHeartbeats 4000000 in
theorem wX9_usedLater_b5_s {p : Program} {l : Launch} {e : Env} {s : State} {m : MethodId} {args : Array Value} {below : List Frame} {meth : Method} {c : Code} {D : va_G} {ca : Nat → ClassId} {ad : Nat → Nat} {H : Heap} {locs : List Loc} {ls : Array Slot} {mem : Mm} {x1 : Int32} {x2 : Int32} {x3 : Int32} {x4 : Int32}  {k5 : Mm → Int32 → Int32 → Int32 → Int32 → Option Int32} {r : Int32} (X : CallFix p m c cX9_usedLater 6 s args TT RX9) (M : Mt meth (some .int))  (hk5 : ∀ (x1 : Int32) (x2 : Int32) (x3 : Int32) (x4 : Int32) (H : Heap) (locs : List Loc) (ls : Array Slot) , Wd D ca ad layM (AA ad layM.length) s.heap s mem H locs → lv_has ls 6 [(0, .ref (ad 0)), (1, .int x1), (2, .int x2), (3, .int x3), (4, .int x4)] → k5 mem x1 x2 x3 x4 = some r → W p l e (rmx 1 21) s m args below meth c H locs 0 0 (EndI D ca ad layM mem r below args s) (F0 m 5 ls []))  (w : Wd D ca ad layM (AA ad layM.length) s.heap s mem H locs) (hl : lv_has ls 6 [(0, .ref (ad 0)), (1, .int x1), (2, .int x2), (3, .int x3), (4, .int x4)]) (h : fX9_usedLater_b5_s  k5 mem x1 x2 x3 x4 = some r) : W p l e (rmx 1 21) s m args below meth c H locs 0 0 (EndI D ca ad layM mem r below args s) (F0 m 5 ls []) := by
  unfold fX9_usedLater_b5_s at h
  refine lv_iload X.1 X.2.1 dX9_usedLater_5 (lv_at hl 4 rfl) ?_
  refine lv_bipush (v := (6 : Int32)) X.1 X.2.1 dX9_usedLater_7 (by decide) ?_
  refine lv_icmp_ge (tgt := 66) X.1 X.2.1 dX9_usedLater_9 (by decide) (fun c1 => ?_) (fun c1 => ?_)
  · rw [if_pos c1] at h
    refine lv_iload_n X.1 X.2.1 dX9_usedLater_66 rfl (lv_at hl 3 rfl) ?_
    obtain rfl := Option.some.inj h
    exact r_iret X M w dX9_usedLater_67
  · rw [if_neg c1] at h
    refine lv_iload_n X.1 X.2.1 dX9_usedLater_12 rfl (lv_at hl 1 rfl) ?_
    refine lv_bipush (v := (7 : Int32)) X.1 X.2.1 dX9_usedLater_13 (by decide) ?_
    refine lv_iload X.1 X.2.1 dX9_usedLater_15 (lv_at hl 4 rfl) ?_
    refine lv_imul X.1 X.2.1 dX9_usedLater_17 ?_
    refine lv_iadd X.1 X.2.1 dX9_usedLater_18 ?_
    obtain ⟨x_2, ex_2, h⟩ := lk_some h
    refine lv_name ex_2 ?_
    refine lv_istore (lv' := [(5, .int x_2), (0, .ref (ad 0)), (1, .int x1), (2, .int x2), (3, .int x3), (4, .int x4)]) X.1 X.2.1 dX9_usedLater_19 hl (by decide) rfl (fun ls hl => ?_)
    refine lv_iload_n X.1 X.2.1 dX9_usedLater_21 rfl (lv_at hl 4 rfl) ?_
    refine lv_aload_n X.1 X.2.1 dX9_usedLater_22 rfl (lv_at hl 1 rfl) ?_
    refine lv_iload X.1 X.2.1 dX9_usedLater_23 (lv_at hl 0 rfl) ?_
    obtain ⟨r3, hr3, h⟩ := bd_some h
    refine r_cVi (As := [.int x_2]) (rest := [.int x3]) X w lyM_0 rfl (kX9_isEmpty  l D ca ad mem x_2  hr3) (gTV tw_1062 tw_1064 tw_39 tw_75 tw_1065) hdX9_isEmpty (by decide) rfl hl.1 rfl (Nat.le_of_ble_eq_true rfl) dX9_usedLater_25 ⟨Nat.zero_le _, Nat.zero_le _⟩ (fun H locs w => ?_)
    refine lv_if_ne (tgt := 57) X.1 X.2.1 dX9_usedLater_28 (by decide) (fun c4 => ?_) (fun c4 => ?_)
    · rw [if_neg c4] at h
      refine lv_iconst (v := (0 : Int32)) X.1 X.2.1 dX9_usedLater_57 (by decide) ?_
      refine lv_iadd X.1 X.2.1 dX9_usedLater_58 ?_
      obtain ⟨x_5, ex_5, h⟩ := lk_some h
      refine lv_name ex_5 ?_
      refine lv_istore_n (lv' := [(3, .int x_5), (5, .int x_2), (0, .ref (ad 0)), (1, .int x1), (2, .int x2), (4, .int x4)]) X.1 X.2.1 dX9_usedLater_59 rfl hl (by decide) rfl (fun ls hl => ?_)
      refine lv_iinc (v := (x4 + (1 : Int32))) (lv' := [(4, .int (x4 + (1 : Int32))), (3, .int x_5), (5, .int x_2), (0, .ref (ad 0)), (1, .int x1), (2, .int x2)]) X.1 X.2.1 dX9_usedLater_60 hl (k := 5) rfl rfl (by decide) rfl (fun ls hl => ?_)
      refine lv_goto (tgt := 5) X.1 X.2.1 dX9_usedLater_63 (by decide) ?_
      exact hk5 _ _ _ _ H locs ls w (lv_sub hl [3, 4, 5, 1, 0] rfl) h
    · rw [if_pos c4] at h
      refine lv_aload_n X.1 X.2.1 dX9_usedLater_31 rfl (lv_at hl 1 rfl) ?_
      refine r_getr (b2 := 1) X w lyM_0 rfl inT9 1 rfl rfl (by decide) rfl tw_903 dX9_usedLater_32 ?_
      refine lv_iload X.1 X.2.1 dX9_usedLater_35 (lv_at hl 0 rfl) ?_
      refine lv_bipush (v := (6 : Int32)) X.1 X.2.1 dX9_usedLater_37 (by decide) ?_
      refine lv_iadd X.1 X.2.1 dX9_usedLater_39 ?_
      obtain ⟨hi6, h⟩ := gd_some h
      refine r_iald X w lyM_1 hi6 dX9_usedLater_40 ?_
      refine lv_aload_n X.1 X.2.1 dX9_usedLater_41 rfl (lv_at hl 1 rfl) ?_
      refine r_getr (b2 := 1) X w lyM_0 rfl inT9 1 rfl rfl (by decide) rfl tw_903 dX9_usedLater_42 ?_
      refine lv_iload_n X.1 X.2.1 dX9_usedLater_45 rfl (lv_at hl 3 rfl) ?_
      refine lv_bipush (v := (6 : Int32)) X.1 X.2.1 dX9_usedLater_46 (by decide) ?_
      refine lv_iadd X.1 X.2.1 dX9_usedLater_48 ?_
      obtain ⟨hi7, h⟩ := gd_some h
      refine r_iald X w lyM_1 hi7 dX9_usedLater_49 ?_
      refine lv_icmp_le (tgt := 57) X.1 X.2.1 dX9_usedLater_50 (by decide) (fun c8 => ?_) (fun c8 => ?_)
      · rw [if_pos c8] at h
        refine lv_iconst (v := (0 : Int32)) X.1 X.2.1 dX9_usedLater_57 (by decide) ?_
        refine lv_iadd X.1 X.2.1 dX9_usedLater_58 ?_
        obtain ⟨x_9, ex_9, h⟩ := lk_some h
        refine lv_name ex_9 ?_
        refine lv_istore_n (lv' := [(3, .int x_9), (5, .int x_2), (0, .ref (ad 0)), (1, .int x1), (2, .int x2), (4, .int x4)]) X.1 X.2.1 dX9_usedLater_59 rfl hl (by decide) rfl (fun ls hl => ?_)
        refine lv_iinc (v := (x4 + (1 : Int32))) (lv' := [(4, .int (x4 + (1 : Int32))), (3, .int x_9), (5, .int x_2), (0, .ref (ad 0)), (1, .int x1), (2, .int x2)]) X.1 X.2.1 dX9_usedLater_60 hl (k := 5) rfl rfl (by decide) rfl (fun ls hl => ?_)
        refine lv_goto (tgt := 5) X.1 X.2.1 dX9_usedLater_63 (by decide) ?_
        exact hk5 _ _ _ _ H locs ls w (lv_sub hl [3, 4, 5, 1, 0] rfl) h
      · rw [if_neg c8] at h
        refine lv_iconst (v := (1 : Int32)) X.1 X.2.1 dX9_usedLater_53 (by decide) ?_
        refine lv_goto (tgt := 58) X.1 X.2.1 dX9_usedLater_54 (by decide) ?_
        refine lv_iadd X.1 X.2.1 dX9_usedLater_58 ?_
        obtain ⟨x_10, ex_10, h⟩ := lk_some h
        refine lv_name ex_10 ?_
        refine lv_istore_n (lv' := [(3, .int x_10), (5, .int x_2), (0, .ref (ad 0)), (1, .int x1), (2, .int x2), (4, .int x4)]) X.1 X.2.1 dX9_usedLater_59 rfl hl (by decide) rfl (fun ls hl => ?_)
        refine lv_iinc (v := (x4 + (1 : Int32))) (lv' := [(4, .int (x4 + (1 : Int32))), (3, .int x_10), (5, .int x_2), (0, .ref (ad 0)), (1, .int x1), (2, .int x2)]) X.1 X.2.1 dX9_usedLater_60 hl (k := 5) rfl rfl (by decide) rfl (fun ls hl => ?_)
        refine lv_goto (tgt := 5) X.1 X.2.1 dX9_usedLater_63 (by decide) ?_
        exact hk5 _ _ _ _ H locs ls w (lv_sub hl [3, 4, 5, 1, 0] rfl) h
set_option maxRecDepth 100000 in
set_option maxHeartbeats 4000000 in
theorem wX9_usedLater_b5 {p : Program} {l : Launch} {e : Env} {s : State} {m : MethodId} {args : Array Value} {below : List Frame} {meth : Method} {c : Code} {D : va_G} {ca : Nat → ClassId} {ad : Nat → Nat} {mem : Mm}  {r : Int32} (X : CallFix p m c cX9_usedLater 6 s args TT RX9) (M : Mt meth (some .int))  : ∀ (n : Nat) (x1 : Int32) (x2 : Int32) (x3 : Int32) (x4 : Int32) (H : Heap) (locs : List Loc) (ls : Array Slot)  (_ : Wd D ca ad layM (AA ad layM.length) s.heap s mem H locs) (_ : lv_has ls 6 [(0, .ref (ad 0)), (1, .int x1), (2, .int x2), (3, .int x3), (4, .int x4)]) (_ : fX9_usedLater_b5  n mem x1 x2 x3 x4 = some r), W p l e (rmx 1 21) s m args below meth c H locs 0 0 (EndI D ca ad layM mem r below args s) (F0 m 5 ls []) := by
  intro n
  induction n with
  | zero => intro x1 x2 x3 x4 H locs ls  w hl h; exact (nofun : (none : Option Int32) = _ → _) h
  | succ n ih => intro x1 x2 x3 x4 H locs ls  w hl h; exact wX9_usedLater_b5_s X M  ih  w hl h
def fX9_usedLater (mem : Mm) (a1 : Int32) (a2 : Int32) : Option Int32 :=
  fX9_usedLater_b5 2000 mem a1 a2 (0 : Int32) (0 : Int32)
set_option maxRecDepth 100000 in
set_option maxHeartbeats 4000000 in
theorem kX9_usedLater (l : Launch) (D : va_G) (ca : Nat → ClassId) (ad : Nat → Nat) (mem : Mm) (a1 : Int32) (a2 : Int32)  {r : Int32} (h : fX9_usedLater mem a1 a2 = some r) : CtI l yX9_usedLater cX9_usedLater 6 (some .int) (rmx 1 21) D ca ad layM mem [.ref (ad 0), .int a1, .int a2] mem r := by
  refine CtI.of (by decide) (Nat.le_of_ble_eq_true rfl) ?_
  intro p e s m args below meth c H locs ls X M w hl
  replace X : CallFix p m c cX9_usedLater 6 s args TT RX9 := X
  replace hl : lv_has ls 6 [(0, .ref (ad 0)), (1, .int a1), (2, .int a2)] := hl
  unfold fX9_usedLater at h
  refine lv_iconst (v := (0 : Int32)) X.1 X.2.1 dX9_usedLater_0 (by decide) ?_
  refine lv_istore_n (lv' := [(3, .int (0 : Int32)), (0, .ref (ad 0)), (1, .int a1), (2, .int a2)]) X.1 X.2.1 dX9_usedLater_1 rfl hl (by decide) rfl (fun ls hl => ?_)
  refine lv_iconst (v := (0 : Int32)) X.1 X.2.1 dX9_usedLater_2 (by decide) ?_
  refine lv_istore (lv' := [(4, .int (0 : Int32)), (3, .int (0 : Int32)), (0, .ref (ad 0)), (1, .int a1), (2, .int a2)]) X.1 X.2.1 dX9_usedLater_3 hl (by decide) rfl (fun ls hl => ?_)
  exact wX9_usedLater_b5 X M _ _ _ _ _ H locs ls w (lv_sub hl [2, 3, 4, 1, 0] rfl) h
/-! WalkHouseModel.cached(II)I (W) -/
theorem hdX9_cached : yX9_cached.cls = RX9 ∧ yX9_cached.cls ≠ "java/lang/invoke/MethodHandle" ∧ yX9_cached.cls ≠ "java/lang/invoke/VarHandle" ∧ (parseMethodDescriptor yX9_cached.desc).map (fun d => d.parameters.length) = some 2 := by decide +kernel
def fX9_cached_b42  (mem : Mm) (x2 : Int32) (x3 : Int32) (s1 : Int32) : Option (Mm × Int32) :=
  wk mem 0 0 s1 (fun m1 => if (m1 0 0) ≤ 0 then if (6 : Int32) ≤ x2 then if x2 = (6 : Int32) then bd (fX9_usedLater m1 (192 : Int32) x3) (fun r8 => some (m1, r8)) else bw (fX9_isStale m1 x3) (fun m6 r5 => if r5 = 0 then some (m6, (0 : Int32)) else some (m6, (1 : Int32))) else gd (x3 + x2) 345 (some (m1, (m1 1 (x3 + x2).toNatClampNeg))) else some (m1, (0 : Int32)))
set_option maxRecDepth 100000 in
set_option maxHeartbeats 4000000 in
theorem wX9_cached_b42 {p : Program} {l : Launch} {e : Env} {s : State} {m : MethodId} {args : Array Value} {below : List Frame} {meth : Method} {c : Code} {D : va_G} {ca : Nat → ClassId} {ad : Nat → Nat} {H : Heap} {locs : List Loc} {ls : Array Slot} {mem : Mm} {x2 : Int32} {x3 : Int32} {s1 : Int32}  {mem' : Mm} {r : Int32} (X : CallFix p m c cX9_cached 4 s args TT RX9) (M : Mt meth (some .int))   (w : Wd D ca ad layM (AA ad layM.length) s.heap s mem H locs) (hl : lv_has ls 4 [(0, .ref (ad 0)), (2, .int x2), (3, .int x3)]) (h : fX9_cached_b42  mem x2 x3 s1 = some (mem', r)) : W p l e (rmx 4 90) s m args below meth c H locs 0 0 (EndI D ca ad layM mem' r below args s) (F0 m 42 ls [.int s1, .ref (ad 0)]) := by
  unfold fX9_cached_b42 at h
  refine r_put X w lyM_0 rfl inT9 tyX9 tyX9_ok nmX9 0 rfl (by decide) rfl rfl tw_902 rfl rfl dX9_cached_42 (fun H locs w => ?_)
  obtain ⟨m1, em1, h⟩ := wk_some h
  rw [em1] at w
  refine lv_aload_n X.1 X.2.1 dX9_cached_45 rfl (lv_at hl 0 rfl) ?_
  refine r_get X w lyM_0 rfl inT9 0 rfl (by decide) rfl tw_902 dX9_cached_46 ?_
  refine lv_if_le (tgt := 54) X.1 X.2.1 dX9_cached_49 (by decide) (fun c2 => ?_) (fun c2 => ?_)
  · rw [if_pos c2] at h
    refine lv_iload_n X.1 X.2.1 dX9_cached_54 rfl (lv_at hl 1 rfl) ?_
    refine lv_bipush (v := (6 : Int32)) X.1 X.2.1 dX9_cached_55 (by decide) ?_
    refine lv_icmp_ge (tgt := 71) X.1 X.2.1 dX9_cached_57 (by decide) (fun c3 => ?_) (fun c3 => ?_)
    · rw [if_pos c3] at h
      refine lv_iload_n X.1 X.2.1 dX9_cached_71 rfl (lv_at hl 1 rfl) ?_
      refine lv_bipush (v := (6 : Int32)) X.1 X.2.1 dX9_cached_72 (by decide) ?_
      refine lv_icmp_ne (tgt := 88) X.1 X.2.1 dX9_cached_74 (by decide) (fun c4 => ?_) (fun c4 => ?_)
      · rw [if_neg c4] at h
        refine lv_aload_n X.1 X.2.1 dX9_cached_88 rfl (lv_at hl 0 rfl) ?_
        refine lv_iload_n X.1 X.2.1 dX9_cached_89 rfl (lv_at hl 2 rfl) ?_
        obtain ⟨m6, r5, hr5, h⟩ := bw_some h
        refine r_cVi (As := [.int x3]) (rest := []) X w lyM_0 rfl (kX9_isStale  l D ca ad m1 x3  hr5) (gTV tw_1174 tw_1176 tw_53 tw_75 tw_1177) hdX9_isStale (by decide) rfl hl.1 rfl (Nat.le_of_ble_eq_true rfl) dX9_cached_90 ⟨Nat.zero_le _, Nat.zero_le _⟩ (fun H locs w => ?_)
        refine lv_if_eq (tgt := 100) X.1 X.2.1 dX9_cached_93 (by decide) (fun c7 => ?_) (fun c7 => ?_)
        · rw [if_pos c7] at h
          refine lv_iconst (v := (0 : Int32)) X.1 X.2.1 dX9_cached_100 (by decide) ?_
          obtain ⟨rfl, rfl⟩ := Prod.mk.inj (Option.some.inj h)
          exact r_iret X M w dX9_cached_101
        · rw [if_neg c7] at h
          refine lv_iconst (v := (1 : Int32)) X.1 X.2.1 dX9_cached_96 (by decide) ?_
          refine lv_goto (tgt := 101) X.1 X.2.1 dX9_cached_97 (by decide) ?_
          obtain ⟨rfl, rfl⟩ := Prod.mk.inj (Option.some.inj h)
          exact r_iret X M w dX9_cached_101
      · rw [if_pos c4] at h
        refine lv_aload_n X.1 X.2.1 dX9_cached_77 rfl (lv_at hl 0 rfl) ?_
        refine lv_sipush (v := (192 : Int32)) X.1 X.2.1 dX9_cached_78 (by decide) ?_
        refine lv_iload_n X.1 X.2.1 dX9_cached_81 rfl (lv_at hl 2 rfl) ?_
        obtain ⟨r8, hr8, h⟩ := bd_some h
        refine r_cVi (As := [.int (192 : Int32), .int x3]) (rest := []) X w lyM_0 rfl (kX9_usedLater  l D ca ad m1 (192 : Int32) x3  hr8) (gTV tw_1170 tw_1172 tw_52 tw_75 tw_1173) hdX9_usedLater (by decide) rfl hl.1 rfl (Nat.le_of_ble_eq_true rfl) dX9_cached_82 ⟨Nat.zero_le _, Nat.zero_le _⟩ (fun H locs w => ?_)
        refine lv_goto (tgt := 101) X.1 X.2.1 dX9_cached_85 (by decide) ?_
        obtain ⟨rfl, rfl⟩ := Prod.mk.inj (Option.some.inj h)
        exact r_iret X M w dX9_cached_101
    · rw [if_neg c3] at h
      refine lv_aload_n X.1 X.2.1 dX9_cached_60 rfl (lv_at hl 0 rfl) ?_
      refine r_getr (b2 := 1) X w lyM_0 rfl inT9 1 rfl rfl (by decide) rfl tw_903 dX9_cached_61 ?_
      refine lv_iload_n X.1 X.2.1 dX9_cached_64 rfl (lv_at hl 2 rfl) ?_
      refine lv_iload_n X.1 X.2.1 dX9_cached_65 rfl (lv_at hl 1 rfl) ?_
      refine lv_iadd X.1 X.2.1 dX9_cached_66 ?_
      obtain ⟨hi9, h⟩ := gd_some h
      refine r_iald X w lyM_1 hi9 dX9_cached_67 ?_
      refine lv_goto (tgt := 101) X.1 X.2.1 dX9_cached_68 (by decide) ?_
      obtain ⟨rfl, rfl⟩ := Prod.mk.inj (Option.some.inj h)
      exact r_iret X M w dX9_cached_101
  · rw [if_neg c2] at h
    refine lv_iconst (v := (0 : Int32)) X.1 X.2.1 dX9_cached_52 (by decide) ?_
    obtain ⟨rfl, rfl⟩ := Prod.mk.inj (Option.some.inj h)
    exact r_iret X M w dX9_cached_53
def fX9_cached (mem : Mm) (a1 : Int32) (a2 : Int32) : Option (Mm × Int32) :=
  lk ((192 : Int32) + ((7 : Int32) * a1)) (fun x_1 => if (fX9_within a1 (0 : Int32) (5 : Int32)) = 0 then fX9_cached_b42 mem a2 x_1 (1 : Int32) else if (fX9_within a2 (0 : Int32) (7 : Int32)) = 0 then fX9_cached_b42 mem a2 x_1 (1 : Int32) else bd (fX9_isEmpty mem x_1) (fun r4 => if r4 = 0 then fX9_cached_b42 mem a2 x_1 (0 : Int32) else fX9_cached_b42 mem a2 x_1 (1 : Int32)))
set_option maxRecDepth 100000 in
set_option maxHeartbeats 4000000 in
theorem kX9_cached (l : Launch) (D : va_G) (ca : Nat → ClassId) (ad : Nat → Nat) (mem : Mm) (a1 : Int32) (a2 : Int32)  {mem' : Mm} {r : Int32} (h : fX9_cached mem a1 a2 = some (mem', r)) : CtI l yX9_cached cX9_cached 4 (some .int) (rmx 4 90) D ca ad layM mem [.ref (ad 0), .int a1, .int a2] mem' r := by
  refine CtI.of (by decide) (Nat.le_of_ble_eq_true rfl) ?_
  intro p e s m args below meth c H locs ls X M w hl
  replace X : CallFix p m c cX9_cached 4 s args TT RX9 := X
  replace hl : lv_has ls 4 [(0, .ref (ad 0)), (1, .int a1), (2, .int a2)] := hl
  unfold fX9_cached at h
  refine lv_sipush (v := (192 : Int32)) X.1 X.2.1 dX9_cached_0 (by decide) ?_
  refine lv_bipush (v := (7 : Int32)) X.1 X.2.1 dX9_cached_3 (by decide) ?_
  refine lv_iload_n X.1 X.2.1 dX9_cached_5 rfl (lv_at hl 1 rfl) ?_
  refine lv_imul X.1 X.2.1 dX9_cached_6 ?_
  refine lv_iadd X.1 X.2.1 dX9_cached_7 ?_
  obtain ⟨x_1, ex_1, h⟩ := lk_some h
  refine lv_name ex_1 ?_
  refine lv_istore_n (lv' := [(3, .int x_1), (0, .ref (ad 0)), (1, .int a1), (2, .int a2)]) X.1 X.2.1 dX9_cached_8 rfl hl (by decide) rfl (fun ls hl => ?_)
  refine lv_aload_n X.1 X.2.1 dX9_cached_9 rfl (lv_at hl 1 rfl) ?_
  refine lv_iload_n X.1 X.2.1 dX9_cached_10 rfl (lv_at hl 2 rfl) ?_
  refine lv_iconst (v := (0 : Int32)) X.1 X.2.1 dX9_cached_11 (by decide) ?_
  refine lv_iconst (v := (5 : Int32)) X.1 X.2.1 dX9_cached_12 (by decide) ?_
  refine r_cSi (As := [.int a1, .int (0 : Int32), .int (5 : Int32)]) (rest := [.ref (ad 0)]) X w (kX9_within  l D ca ad mem a1 (0 : Int32) (5 : Int32)  rfl) (gTS tw_983 tw_984 tw_75 tw_985) hdX9_within (by decide) rfl hl.1 rfl (Nat.le_of_ble_eq_true rfl) dX9_cached_13 ⟨Nat.zero_le _, Nat.zero_le _⟩ (fun H locs w => ?_)
  refine lv_if_eq (tgt := 41) X.1 X.2.1 dX9_cached_16 (by decide) (fun c2 => ?_) (fun c2 => ?_)
  · rw [if_pos c2] at h
    refine lv_iconst (v := (1 : Int32)) X.1 X.2.1 dX9_cached_41 (by decide) ?_
    exact wX9_cached_b42 X M w (lv_sub hl [1, 3, 0] rfl) h
  · rw [if_neg c2] at h
    refine lv_iload_n X.1 X.2.1 dX9_cached_19 rfl (lv_at hl 3 rfl) ?_
    refine lv_iconst (v := (0 : Int32)) X.1 X.2.1 dX9_cached_20 (by decide) ?_
    refine lv_bipush (v := (7 : Int32)) X.1 X.2.1 dX9_cached_21 (by decide) ?_
    refine r_cSi (As := [.int a2, .int (0 : Int32), .int (7 : Int32)]) (rest := [.ref (ad 0)]) X w (kX9_within  l D ca ad mem a2 (0 : Int32) (7 : Int32)  rfl) (gTS tw_983 tw_984 tw_75 tw_985) hdX9_within (by decide) rfl hl.1 rfl (Nat.le_of_ble_eq_true rfl) dX9_cached_23 ⟨Nat.zero_le _, Nat.zero_le _⟩ (fun H locs w => ?_)
    refine lv_if_eq (tgt := 41) X.1 X.2.1 dX9_cached_26 (by decide) (fun c3 => ?_) (fun c3 => ?_)
    · rw [if_pos c3] at h
      refine lv_iconst (v := (1 : Int32)) X.1 X.2.1 dX9_cached_41 (by decide) ?_
      exact wX9_cached_b42 X M w (lv_sub hl [1, 3, 0] rfl) h
    · rw [if_neg c3] at h
      refine lv_aload_n X.1 X.2.1 dX9_cached_29 rfl (lv_at hl 1 rfl) ?_
      refine lv_iload_n X.1 X.2.1 dX9_cached_30 rfl (lv_at hl 0 rfl) ?_
      obtain ⟨r4, hr4, h⟩ := bd_some h
      refine r_cVi (As := [.int x_1]) (rest := [.ref (ad 0)]) X w lyM_0 rfl (kX9_isEmpty  l D ca ad mem x_1  hr4) (gTV tw_1062 tw_1064 tw_39 tw_75 tw_1065) hdX9_isEmpty (by decide) rfl hl.1 rfl (Nat.le_of_ble_eq_true rfl) dX9_cached_31 ⟨Nat.zero_le _, Nat.zero_le _⟩ (fun H locs w => ?_)
      refine lv_if_ne (tgt := 41) X.1 X.2.1 dX9_cached_34 (by decide) (fun c5 => ?_) (fun c5 => ?_)
      · rw [if_neg c5] at h
        refine lv_iconst (v := (1 : Int32)) X.1 X.2.1 dX9_cached_41 (by decide) ?_
        exact wX9_cached_b42 X M w (lv_sub hl [1, 3, 0] rfl) h
      · rw [if_pos c5] at h
        refine lv_iconst (v := (0 : Int32)) X.1 X.2.1 dX9_cached_37 (by decide) ?_
        refine lv_goto (tgt := 42) X.1 X.2.1 dX9_cached_38 (by decide) ?_
        exact wX9_cached_b42 X M w (lv_sub hl [1, 3, 0] rfl) h
/-! WalkHouseModel.upper(II)I (W) -/
theorem hdX9_upper : yX9_upper.cls = RX9 ∧ yX9_upper.cls ≠ "java/lang/invoke/MethodHandle" ∧ yX9_upper.cls ≠ "java/lang/invoke/VarHandle" ∧ (parseMethodDescriptor yX9_upper.desc).map (fun d => d.parameters.length) = some 2 := by decide +kernel
def fX9_upper_b42  (mem : Mm) (x2 : Int32) (x3 : Int32) (s1 : Int32) : Option (Mm × Int32) :=
  wk mem 0 0 s1 (fun m1 => if (m1 0 0) ≤ 0 then if (5 : Int32) ≤ x2 then if x2 = (5 : Int32) then bd (fX9_usedLater m1 (234 : Int32) x3) (fun r8 => some (m1, r8)) else bw (fX9_isStaleAbove m1 x3) (fun m6 r5 => if r5 = 0 then some (m6, (0 : Int32)) else some (m6, (1 : Int32))) else gd (x3 + x2) 345 (some (m1, (m1 1 (x3 + x2).toNatClampNeg))) else some (m1, (0 : Int32)))
set_option maxRecDepth 100000 in
set_option maxHeartbeats 4000000 in
theorem wX9_upper_b42 {p : Program} {l : Launch} {e : Env} {s : State} {m : MethodId} {args : Array Value} {below : List Frame} {meth : Method} {c : Code} {D : va_G} {ca : Nat → ClassId} {ad : Nat → Nat} {H : Heap} {locs : List Loc} {ls : Array Slot} {mem : Mm} {x2 : Int32} {x3 : Int32} {s1 : Int32}  {mem' : Mm} {r : Int32} (X : CallFix p m c cX9_upper 4 s args TT RX9) (M : Mt meth (some .int))   (w : Wd D ca ad layM (AA ad layM.length) s.heap s mem H locs) (hl : lv_has ls 4 [(0, .ref (ad 0)), (2, .int x2), (3, .int x3)]) (h : fX9_upper_b42  mem x2 x3 s1 = some (mem', r)) : W p l e (rmx 4 90) s m args below meth c H locs 0 0 (EndI D ca ad layM mem' r below args s) (F0 m 42 ls [.int s1, .ref (ad 0)]) := by
  unfold fX9_upper_b42 at h
  refine r_put X w lyM_0 rfl inT9 tyX9 tyX9_ok nmX9 0 rfl (by decide) rfl rfl tw_902 rfl rfl dX9_upper_42 (fun H locs w => ?_)
  obtain ⟨m1, em1, h⟩ := wk_some h
  rw [em1] at w
  refine lv_aload_n X.1 X.2.1 dX9_upper_45 rfl (lv_at hl 0 rfl) ?_
  refine r_get X w lyM_0 rfl inT9 0 rfl (by decide) rfl tw_902 dX9_upper_46 ?_
  refine lv_if_le (tgt := 54) X.1 X.2.1 dX9_upper_49 (by decide) (fun c2 => ?_) (fun c2 => ?_)
  · rw [if_pos c2] at h
    refine lv_iload_n X.1 X.2.1 dX9_upper_54 rfl (lv_at hl 1 rfl) ?_
    refine lv_iconst (v := (5 : Int32)) X.1 X.2.1 dX9_upper_55 (by decide) ?_
    refine lv_icmp_ge (tgt := 70) X.1 X.2.1 dX9_upper_56 (by decide) (fun c3 => ?_) (fun c3 => ?_)
    · rw [if_pos c3] at h
      refine lv_iload_n X.1 X.2.1 dX9_upper_70 rfl (lv_at hl 1 rfl) ?_
      refine lv_iconst (v := (5 : Int32)) X.1 X.2.1 dX9_upper_71 (by decide) ?_
      refine lv_icmp_ne (tgt := 86) X.1 X.2.1 dX9_upper_72 (by decide) (fun c4 => ?_) (fun c4 => ?_)
      · rw [if_neg c4] at h
        refine lv_aload_n X.1 X.2.1 dX9_upper_86 rfl (lv_at hl 0 rfl) ?_
        refine lv_iload_n X.1 X.2.1 dX9_upper_87 rfl (lv_at hl 2 rfl) ?_
        obtain ⟨m6, r5, hr5, h⟩ := bw_some h
        refine r_cVi (As := [.int x3]) (rest := []) X w lyM_0 rfl (kX9_isStaleAbove  l D ca ad m1 x3  hr5) (gTV tw_1182 tw_1184 tw_54 tw_75 tw_1185) hdX9_isStaleAbove (by decide) rfl hl.1 rfl (Nat.le_of_ble_eq_true rfl) dX9_upper_88 ⟨Nat.zero_le _, Nat.zero_le _⟩ (fun H locs w => ?_)
        refine lv_if_eq (tgt := 98) X.1 X.2.1 dX9_upper_91 (by decide) (fun c7 => ?_) (fun c7 => ?_)
        · rw [if_pos c7] at h
          refine lv_iconst (v := (0 : Int32)) X.1 X.2.1 dX9_upper_98 (by decide) ?_
          obtain ⟨rfl, rfl⟩ := Prod.mk.inj (Option.some.inj h)
          exact r_iret X M w dX9_upper_99
        · rw [if_neg c7] at h
          refine lv_iconst (v := (1 : Int32)) X.1 X.2.1 dX9_upper_94 (by decide) ?_
          refine lv_goto (tgt := 99) X.1 X.2.1 dX9_upper_95 (by decide) ?_
          obtain ⟨rfl, rfl⟩ := Prod.mk.inj (Option.some.inj h)
          exact r_iret X M w dX9_upper_99
      · rw [if_pos c4] at h
        refine lv_aload_n X.1 X.2.1 dX9_upper_75 rfl (lv_at hl 0 rfl) ?_
        refine lv_sipush (v := (234 : Int32)) X.1 X.2.1 dX9_upper_76 (by decide) ?_
        refine lv_iload_n X.1 X.2.1 dX9_upper_79 rfl (lv_at hl 2 rfl) ?_
        obtain ⟨r8, hr8, h⟩ := bd_some h
        refine r_cVi (As := [.int (234 : Int32), .int x3]) (rest := []) X w lyM_0 rfl (kX9_usedLater  l D ca ad m1 (234 : Int32) x3  hr8) (gTV tw_1170 tw_1172 tw_52 tw_75 tw_1173) hdX9_usedLater (by decide) rfl hl.1 rfl (Nat.le_of_ble_eq_true rfl) dX9_upper_80 ⟨Nat.zero_le _, Nat.zero_le _⟩ (fun H locs w => ?_)
        refine lv_goto (tgt := 99) X.1 X.2.1 dX9_upper_83 (by decide) ?_
        obtain ⟨rfl, rfl⟩ := Prod.mk.inj (Option.some.inj h)
        exact r_iret X M w dX9_upper_99
    · rw [if_neg c3] at h
      refine lv_aload_n X.1 X.2.1 dX9_upper_59 rfl (lv_at hl 0 rfl) ?_
      refine r_getr (b2 := 1) X w lyM_0 rfl inT9 1 rfl rfl (by decide) rfl tw_903 dX9_upper_60 ?_
      refine lv_iload_n X.1 X.2.1 dX9_upper_63 rfl (lv_at hl 2 rfl) ?_
      refine lv_iload_n X.1 X.2.1 dX9_upper_64 rfl (lv_at hl 1 rfl) ?_
      refine lv_iadd X.1 X.2.1 dX9_upper_65 ?_
      obtain ⟨hi9, h⟩ := gd_some h
      refine r_iald X w lyM_1 hi9 dX9_upper_66 ?_
      refine lv_goto (tgt := 99) X.1 X.2.1 dX9_upper_67 (by decide) ?_
      obtain ⟨rfl, rfl⟩ := Prod.mk.inj (Option.some.inj h)
      exact r_iret X M w dX9_upper_99
  · rw [if_neg c2] at h
    refine lv_iconst (v := (0 : Int32)) X.1 X.2.1 dX9_upper_52 (by decide) ?_
    obtain ⟨rfl, rfl⟩ := Prod.mk.inj (Option.some.inj h)
    exact r_iret X M w dX9_upper_53
def fX9_upper (mem : Mm) (a1 : Int32) (a2 : Int32) : Option (Mm × Int32) :=
  lk ((234 : Int32) + ((7 : Int32) * a1)) (fun x_1 => if (fX9_within a1 (0 : Int32) (5 : Int32)) = 0 then fX9_upper_b42 mem a2 x_1 (1 : Int32) else if (fX9_within a2 (0 : Int32) (6 : Int32)) = 0 then fX9_upper_b42 mem a2 x_1 (1 : Int32) else bd (fX9_isEmpty mem x_1) (fun r4 => if r4 = 0 then fX9_upper_b42 mem a2 x_1 (0 : Int32) else fX9_upper_b42 mem a2 x_1 (1 : Int32)))
set_option maxRecDepth 100000 in
set_option maxHeartbeats 4000000 in
theorem kX9_upper (l : Launch) (D : va_G) (ca : Nat → ClassId) (ad : Nat → Nat) (mem : Mm) (a1 : Int32) (a2 : Int32)  {mem' : Mm} {r : Int32} (h : fX9_upper mem a1 a2 = some (mem', r)) : CtI l yX9_upper cX9_upper 4 (some .int) (rmx 4 90) D ca ad layM mem [.ref (ad 0), .int a1, .int a2] mem' r := by
  refine CtI.of (by decide) (Nat.le_of_ble_eq_true rfl) ?_
  intro p e s m args below meth c H locs ls X M w hl
  replace X : CallFix p m c cX9_upper 4 s args TT RX9 := X
  replace hl : lv_has ls 4 [(0, .ref (ad 0)), (1, .int a1), (2, .int a2)] := hl
  unfold fX9_upper at h
  refine lv_sipush (v := (234 : Int32)) X.1 X.2.1 dX9_upper_0 (by decide) ?_
  refine lv_bipush (v := (7 : Int32)) X.1 X.2.1 dX9_upper_3 (by decide) ?_
  refine lv_iload_n X.1 X.2.1 dX9_upper_5 rfl (lv_at hl 1 rfl) ?_
  refine lv_imul X.1 X.2.1 dX9_upper_6 ?_
  refine lv_iadd X.1 X.2.1 dX9_upper_7 ?_
  obtain ⟨x_1, ex_1, h⟩ := lk_some h
  refine lv_name ex_1 ?_
  refine lv_istore_n (lv' := [(3, .int x_1), (0, .ref (ad 0)), (1, .int a1), (2, .int a2)]) X.1 X.2.1 dX9_upper_8 rfl hl (by decide) rfl (fun ls hl => ?_)
  refine lv_aload_n X.1 X.2.1 dX9_upper_9 rfl (lv_at hl 1 rfl) ?_
  refine lv_iload_n X.1 X.2.1 dX9_upper_10 rfl (lv_at hl 2 rfl) ?_
  refine lv_iconst (v := (0 : Int32)) X.1 X.2.1 dX9_upper_11 (by decide) ?_
  refine lv_iconst (v := (5 : Int32)) X.1 X.2.1 dX9_upper_12 (by decide) ?_
  refine r_cSi (As := [.int a1, .int (0 : Int32), .int (5 : Int32)]) (rest := [.ref (ad 0)]) X w (kX9_within  l D ca ad mem a1 (0 : Int32) (5 : Int32)  rfl) (gTS tw_983 tw_984 tw_75 tw_985) hdX9_within (by decide) rfl hl.1 rfl (Nat.le_of_ble_eq_true rfl) dX9_upper_13 ⟨Nat.zero_le _, Nat.zero_le _⟩ (fun H locs w => ?_)
  refine lv_if_eq (tgt := 41) X.1 X.2.1 dX9_upper_16 (by decide) (fun c2 => ?_) (fun c2 => ?_)
  · rw [if_pos c2] at h
    refine lv_iconst (v := (1 : Int32)) X.1 X.2.1 dX9_upper_41 (by decide) ?_
    exact wX9_upper_b42 X M w (lv_sub hl [1, 3, 0] rfl) h
  · rw [if_neg c2] at h
    refine lv_iload_n X.1 X.2.1 dX9_upper_19 rfl (lv_at hl 3 rfl) ?_
    refine lv_iconst (v := (0 : Int32)) X.1 X.2.1 dX9_upper_20 (by decide) ?_
    refine lv_bipush (v := (6 : Int32)) X.1 X.2.1 dX9_upper_21 (by decide) ?_
    refine r_cSi (As := [.int a2, .int (0 : Int32), .int (6 : Int32)]) (rest := [.ref (ad 0)]) X w (kX9_within  l D ca ad mem a2 (0 : Int32) (6 : Int32)  rfl) (gTS tw_983 tw_984 tw_75 tw_985) hdX9_within (by decide) rfl hl.1 rfl (Nat.le_of_ble_eq_true rfl) dX9_upper_23 ⟨Nat.zero_le _, Nat.zero_le _⟩ (fun H locs w => ?_)
    refine lv_if_eq (tgt := 41) X.1 X.2.1 dX9_upper_26 (by decide) (fun c3 => ?_) (fun c3 => ?_)
    · rw [if_pos c3] at h
      refine lv_iconst (v := (1 : Int32)) X.1 X.2.1 dX9_upper_41 (by decide) ?_
      exact wX9_upper_b42 X M w (lv_sub hl [1, 3, 0] rfl) h
    · rw [if_neg c3] at h
      refine lv_aload_n X.1 X.2.1 dX9_upper_29 rfl (lv_at hl 1 rfl) ?_
      refine lv_iload_n X.1 X.2.1 dX9_upper_30 rfl (lv_at hl 0 rfl) ?_
      obtain ⟨r4, hr4, h⟩ := bd_some h
      refine r_cVi (As := [.int x_1]) (rest := [.ref (ad 0)]) X w lyM_0 rfl (kX9_isEmpty  l D ca ad mem x_1  hr4) (gTV tw_1062 tw_1064 tw_39 tw_75 tw_1065) hdX9_isEmpty (by decide) rfl hl.1 rfl (Nat.le_of_ble_eq_true rfl) dX9_upper_31 ⟨Nat.zero_le _, Nat.zero_le _⟩ (fun H locs w => ?_)
      refine lv_if_ne (tgt := 41) X.1 X.2.1 dX9_upper_34 (by decide) (fun c5 => ?_) (fun c5 => ?_)
      · rw [if_neg c5] at h
        refine lv_iconst (v := (1 : Int32)) X.1 X.2.1 dX9_upper_41 (by decide) ?_
        exact wX9_upper_b42 X M w (lv_sub hl [1, 3, 0] rfl) h
      · rw [if_pos c5] at h
        refine lv_iconst (v := (0 : Int32)) X.1 X.2.1 dX9_upper_37 (by decide) ?_
        refine lv_goto (tgt := 42) X.1 X.2.1 dX9_upper_38 (by decide) ?_
        exact wX9_upper_b42 X M w (lv_sub hl [1, 3, 0] rfl) h
