/-! WalkHouse$Store.dropAddress(II)I (W) -/
theorem hdX5_dropAddress : yX5_dropAddress.cls = RX5 ∧ yX5_dropAddress.cls ≠ "java/lang/invoke/MethodHandle" ∧ yX5_dropAddress.cls ≠ "java/lang/invoke/VarHandle" ∧ (parseMethodDescriptor yX5_dropAddress.desc).map (fun d => d.parameters.length) = some 2 := by decide +kernel
def fX5_dropAddress_b5_s  (k5 : Mm → Nat → Int32 → Int32 → Int32 → Int32 → Option (Mm × Int32)) (mem : Mm) (x0 : Nat) (x1 : Int32) (x2 : Int32) (x3 : Int32) (x4 : Int32) : Option (Mm × Int32) :=
  if (6 : Int32) ≤ x4 then some (mem, x3) else gd x4 6 (lkN ((x0 + 1) + 1 + 1 * x4.toNatClampNeg) (fun b3 => bd (fX3_has mem b3 x2) (fun r4 => if r4 = 0 then k5 mem x0 x1 x2 x3 (x4 + (1 : Int32)) else if (mem b3 1) = x1 then wk mem b3 0 (0 : Int32) (fun m7 => k5 m7 x0 x1 x2 (x3 + (1 : Int32)) (x4 + (1 : Int32))) else bd (fX3_isGlobal mem b3) (fun r8 => if r8 = 0 then k5 mem x0 x1 x2 x3 (x4 + (1 : Int32)) else wk mem b3 0 (0 : Int32) (fun m10 => k5 m10 x0 x1 x2 (x3 + (1 : Int32)) (x4 + (1 : Int32)))))))
def fX5_dropAddress_b5  : Nat → Mm → Nat → Int32 → Int32 → Int32 → Int32 → Option (Mm × Int32)
  | 0 => fun _ _ _ _ _ _ => none
  | n + 1 => fX5_dropAddress_b5_s  (fX5_dropAddress_b5  n)
set_option maxRecDepth 100000 in
set_option maxHeartbeats 4000000 in
theorem wX5_dropAddress_b5_s {p : Program} {l : Launch} {e : Env} {s : State} {m : MethodId} {args : Array Value} {below : List Frame} {meth : Method} {c : Code} {D : va_G} {ca : Nat → ClassId} {ad : Nat → Nat} {cap : Nat} {H : Heap} {locs : List Loc} {ls : Array Slot} {mem : Mm} {x0 : Nat} {x1 : Int32} {x2 : Int32} {x3 : Int32} {x4 : Int32}  {k5 : Mm → Nat → Int32 → Int32 → Int32 → Int32 → Option (Mm × Int32)} {mem' : Mm} {r : Int32} (X : CallFix p m c cX5_dropAddress 6 s args TT RX5) (M : Mt meth (some .int))  (hk5 : ∀ (mem : Mm) (x0 : Nat) (x1 : Int32) (x2 : Int32) (x3 : Int32) (x4 : Int32) (H : Heap) (locs : List Loc) (ls : Array Slot) (hx0 : isSt x0), Wd D ca ad (layC cap) (AA ad (layC cap).length) s.heap s mem H locs → lv_has ls 6 [(0, .ref (ad x0)), (1, .int x1), (2, .int x2), (3, .int x3), (4, .int x4)] → k5 mem x0 x1 x2 x3 x4 = some (mem', r) → W p l e (rmx 4 83) s m args below meth c H locs 0 0 (EndI D ca ad (layC cap) mem' r below args s) (F0 m 5 ls [])) (hx0 : isSt x0) (w : Wd D ca ad (layC cap) (AA ad (layC cap).length) s.heap s mem H locs) (hl : lv_has ls 6 [(0, .ref (ad x0)), (1, .int x1), (2, .int x2), (3, .int x3), (4, .int x4)]) (h : fX5_dropAddress_b5_s  k5 mem x0 x1 x2 x3 x4 = some (mem', r)) : W p l e (rmx 4 83) s m args below meth c H locs 0 0 (EndI D ca ad (layC cap) mem' r below args s) (F0 m 5 ls []) := by
  unfold fX5_dropAddress_b5_s at h
  refine lv_iload X.1 X.2.1 dX5_dropAddress_5 (lv_at hl 4 rfl) ?_
  refine lv_bipush (v := (6 : Int32)) X.1 X.2.1 dX5_dropAddress_7 (by decide) ?_
  refine lv_icmp_ge (tgt := 62) X.1 X.2.1 dX5_dropAddress_9 (by decide) (fun c1 => ?_) (fun c1 => ?_)
  · rw [if_pos c1] at h
    refine lv_iload_n X.1 X.2.1 dX5_dropAddress_62 rfl (lv_at hl 3 rfl) ?_
    obtain ⟨rfl, rfl⟩ := Prod.mk.inj (Option.some.inj h)
    exact r_iret X M w dX5_dropAddress_63
  · rw [if_neg c1] at h
    refine lv_aload_n X.1 X.2.1 dX5_dropAddress_12 rfl (lv_at hl 0 rfl) ?_
    refine r_getr (b2 := (x0 + 1)) X w (lySt hx0) rfl inT5 0 rfl rfl (by decide) rfl tw_170 dX5_dropAddress_13 ?_
    refine lv_iload X.1 X.2.1 dX5_dropAddress_16 (lv_at hl 4 rfl) ?_
    obtain ⟨hi2, h⟩ := gd_some h
    obtain ⟨b3, eb3, h⟩ := lkN_some h
    refine r_aald X w (t := 2) (lySA hx0) rfl hi2 eb3 dX5_dropAddress_18 ?_
    have hb3 : isPl b3 := isPl_of hx0 hi2 eb3
    refine lv_astore (lv' := [(5, .ref (ad b3)), (0, .ref (ad x0)), (1, .int x1), (2, .int x2), (3, .int x3), (4, .int x4)]) X.1 X.2.1 dX5_dropAddress_19 hl (by decide) rfl (fun ls hl => ?_)
    refine lv_aload X.1 X.2.1 dX5_dropAddress_21 (lv_at hl 0 rfl) ?_
    refine lv_iload_n X.1 X.2.1 dX5_dropAddress_23 rfl (lv_at hl 3 rfl) ?_
    obtain ⟨r4, hr4, h⟩ := bd_some h
    refine r_cVi (As := [.int x2]) (rest := []) X w (lyPl hb3) rfl (kX3_has (cap := cap) l D ca ad mem b3 x2 hb3 hr4) (gTV tw_635 tw_458 tw_459 tw_69 tw_460) hdX3_has (by decide) rfl hl.1 rfl (Nat.le_of_ble_eq_true rfl) dX5_dropAddress_24 ⟨Nat.zero_le _, Nat.zero_le _⟩ (fun H locs w => ?_)
    refine lv_if_eq (tgt := 56) X.1 X.2.1 dX5_dropAddress_27 (by decide) (fun c5 => ?_) (fun c5 => ?_)
    · rw [if_pos c5] at h
      refine lv_iinc (v := (x4 + (1 : Int32))) (lv' := [(4, .int (x4 + (1 : Int32))), (5, .ref (ad b3)), (0, .ref (ad x0)), (1, .int x1), (2, .int x2), (3, .int x3)]) X.1 X.2.1 dX5_dropAddress_56 hl (k := 5) rfl rfl (by decide) rfl (fun ls hl => ?_)
      refine lv_goto (tgt := 5) X.1 X.2.1 dX5_dropAddress_59 (by decide) ?_
      exact hk5 _ _ _ _ _ _ H locs ls hx0 w (lv_sub hl [2, 3, 4, 5, 0] rfl) h
    · rw [if_neg c5] at h
      refine lv_aload X.1 X.2.1 dX5_dropAddress_30 (lv_at hl 0 rfl) ?_
      refine r_get X w (lyPl hb3) rfl inT3 1 rfl (by decide) rfl tw_136 dX5_dropAddress_32 ?_
      refine lv_iload_n X.1 X.2.1 dX5_dropAddress_35 rfl (lv_at hl 2 rfl) ?_
      refine lv_icmp_eq (tgt := 47) X.1 X.2.1 dX5_dropAddress_36 (by decide) (fun c6 => ?_) (fun c6 => ?_)
      · rw [if_pos c6] at h
        refine lv_aload X.1 X.2.1 dX5_dropAddress_47 (lv_at hl 0 rfl) ?_
        refine lv_iconst (v := (0 : Int32)) X.1 X.2.1 dX5_dropAddress_49 (by decide) ?_
        refine r_put X w (lyPl hb3) rfl inT3 tyX3 tyX3_ok nmX3 0 rfl (by decide) rfl rfl tw_134 rfl rfl dX5_dropAddress_50 (fun H locs w => ?_)
        obtain ⟨m7, em7, h⟩ := wk_some h
        rw [em7] at w
        refine lv_iinc (v := (x3 + (1 : Int32))) (lv' := [(3, .int (x3 + (1 : Int32))), (5, .ref (ad b3)), (0, .ref (ad x0)), (1, .int x1), (2, .int x2), (4, .int x4)]) X.1 X.2.1 dX5_dropAddress_53 hl (k := 4) rfl rfl (by decide) rfl (fun ls hl => ?_)
        refine lv_iinc (v := (x4 + (1 : Int32))) (lv' := [(4, .int (x4 + (1 : Int32))), (3, .int (x3 + (1 : Int32))), (5, .ref (ad b3)), (0, .ref (ad x0)), (1, .int x1), (2, .int x2)]) X.1 X.2.1 dX5_dropAddress_56 hl (k := 5) rfl rfl (by decide) rfl (fun ls hl => ?_)
        refine lv_goto (tgt := 5) X.1 X.2.1 dX5_dropAddress_59 (by decide) ?_
        exact hk5 _ _ _ _ _ _ H locs ls hx0 w (lv_sub hl [3, 4, 5, 1, 0] rfl) h
      · rw [if_neg c6] at h
        refine lv_aload X.1 X.2.1 dX5_dropAddress_39 (lv_at hl 0 rfl) ?_
        obtain ⟨r8, hr8, h⟩ := bd_some h
        refine r_cVi (As := []) (rest := []) X w (lyPl hb3) rfl (kX3_isGlobal (cap := cap) l D ca ad mem b3 hb3 hr8) (gTV tw_434 tw_435 tw_436 tw_69 tw_437) hdX3_isGlobal (by decide) rfl hl.1 rfl (Nat.le_of_ble_eq_true rfl) dX5_dropAddress_41 ⟨Nat.zero_le _, Nat.zero_le _⟩ (fun H locs w => ?_)
        refine lv_if_eq (tgt := 56) X.1 X.2.1 dX5_dropAddress_44 (by decide) (fun c9 => ?_) (fun c9 => ?_)
        · rw [if_pos c9] at h
          refine lv_iinc (v := (x4 + (1 : Int32))) (lv' := [(4, .int (x4 + (1 : Int32))), (5, .ref (ad b3)), (0, .ref (ad x0)), (1, .int x1), (2, .int x2), (3, .int x3)]) X.1 X.2.1 dX5_dropAddress_56 hl (k := 5) rfl rfl (by decide) rfl (fun ls hl => ?_)
          refine lv_goto (tgt := 5) X.1 X.2.1 dX5_dropAddress_59 (by decide) ?_
          exact hk5 _ _ _ _ _ _ H locs ls hx0 w (lv_sub hl [2, 3, 4, 5, 0] rfl) h
        · rw [if_neg c9] at h
          refine lv_aload X.1 X.2.1 dX5_dropAddress_47 (lv_at hl 0 rfl) ?_
          refine lv_iconst (v := (0 : Int32)) X.1 X.2.1 dX5_dropAddress_49 (by decide) ?_
          refine r_put X w (lyPl hb3) rfl inT3 tyX3 tyX3_ok nmX3 0 rfl (by decide) rfl rfl tw_134 rfl rfl dX5_dropAddress_50 (fun H locs w => ?_)
          obtain ⟨m10, em10, h⟩ := wk_some h
          rw [em10] at w
          refine lv_iinc (v := (x3 + (1 : Int32))) (lv' := [(3, .int (x3 + (1 : Int32))), (5, .ref (ad b3)), (0, .ref (ad x0)), (1, .int x1), (2, .int x2), (4, .int x4)]) X.1 X.2.1 dX5_dropAddress_53 hl (k := 4) rfl rfl (by decide) rfl (fun ls hl => ?_)
          refine lv_iinc (v := (x4 + (1 : Int32))) (lv' := [(4, .int (x4 + (1 : Int32))), (3, .int (x3 + (1 : Int32))), (5, .ref (ad b3)), (0, .ref (ad x0)), (1, .int x1), (2, .int x2)]) X.1 X.2.1 dX5_dropAddress_56 hl (k := 5) rfl rfl (by decide) rfl (fun ls hl => ?_)
          refine lv_goto (tgt := 5) X.1 X.2.1 dX5_dropAddress_59 (by decide) ?_
          exact hk5 _ _ _ _ _ _ H locs ls hx0 w (lv_sub hl [3, 4, 5, 1, 0] rfl) h
set_option maxRecDepth 100000 in
set_option maxHeartbeats 4000000 in
theorem wX5_dropAddress_b5 {p : Program} {l : Launch} {e : Env} {s : State} {m : MethodId} {args : Array Value} {below : List Frame} {meth : Method} {c : Code} {D : va_G} {ca : Nat → ClassId} {ad : Nat → Nat} {cap : Nat}  {mem' : Mm} {r : Int32} (X : CallFix p m c cX5_dropAddress 6 s args TT RX5) (M : Mt meth (some .int))  : ∀ (n : Nat) (mem : Mm) (x0 : Nat) (x1 : Int32) (x2 : Int32) (x3 : Int32) (x4 : Int32) (H : Heap) (locs : List Loc) (ls : Array Slot) (hx0 : isSt x0) (_ : Wd D ca ad (layC cap) (AA ad (layC cap).length) s.heap s mem H locs) (_ : lv_has ls 6 [(0, .ref (ad x0)), (1, .int x1), (2, .int x2), (3, .int x3), (4, .int x4)]) (_ : fX5_dropAddress_b5  n mem x0 x1 x2 x3 x4 = some (mem', r)), W p l e (rmx 4 83) s m args below meth c H locs 0 0 (EndI D ca ad (layC cap) mem' r below args s) (F0 m 5 ls []) := by
  intro n
  induction n with
  | zero => intro mem x0 x1 x2 x3 x4 H locs ls hx0 w hl h; exact (nofun : (none : Option (Mm × Int32)) = _ → _) h
  | succ n ih => intro mem x0 x1 x2 x3 x4 H locs ls hx0 w hl h; exact wX5_dropAddress_b5_s X M  ih hx0 w hl h
def fX5_dropAddress (mem : Mm) (a0 : Nat) (a1 : Int32) (a2 : Int32) : Option (Mm × Int32) :=
  fX5_dropAddress_b5 2000 mem a0 a1 a2 (0 : Int32) (0 : Int32)
set_option maxRecDepth 100000 in
set_option maxHeartbeats 4000000 in
theorem kX5_dropAddress {cap : Nat} (l : Launch) (D : va_G) (ca : Nat → ClassId) (ad : Nat → Nat) (mem : Mm) (a0 : Nat) (a1 : Int32) (a2 : Int32) (h0 : isSt a0) {mem' : Mm} {r : Int32} (h : fX5_dropAddress mem a0 a1 a2 = some (mem', r)) : CtI l yX5_dropAddress cX5_dropAddress 6 (some .int) (rmx 4 83) D ca ad (layC cap) mem [.ref (ad a0), .int a1, .int a2] mem' r := by
  refine CtI.of (by decide) (Nat.le_of_ble_eq_true rfl) ?_
  intro p e s m args below meth c H locs ls X M w hl
  replace X : CallFix p m c cX5_dropAddress 6 s args TT RX5 := X
  replace hl : lv_has ls 6 [(0, .ref (ad a0)), (1, .int a1), (2, .int a2)] := hl
  unfold fX5_dropAddress at h
  refine lv_iconst (v := (0 : Int32)) X.1 X.2.1 dX5_dropAddress_0 (by decide) ?_
  refine lv_istore_n (lv' := [(3, .int (0 : Int32)), (0, .ref (ad a0)), (1, .int a1), (2, .int a2)]) X.1 X.2.1 dX5_dropAddress_1 rfl hl (by decide) rfl (fun ls hl => ?_)
  refine lv_iconst (v := (0 : Int32)) X.1 X.2.1 dX5_dropAddress_2 (by decide) ?_
  refine lv_istore (lv' := [(4, .int (0 : Int32)), (3, .int (0 : Int32)), (0, .ref (ad a0)), (1, .int a1), (2, .int a2)]) X.1 X.2.1 dX5_dropAddress_3 hl (by decide) rfl (fun ls hl => ?_)
  exact wX5_dropAddress_b5 X M _ _ _ _ _ _ _ H locs ls h0 w (lv_sub hl [2, 3, 4, 1, 0] rfl) h
/-! WalkHouse$Store.dropTag(IZ)I (W) -/
theorem hdX5_dropTag : yX5_dropTag.cls = RX5 ∧ yX5_dropTag.cls ≠ "java/lang/invoke/MethodHandle" ∧ yX5_dropTag.cls ≠ "java/lang/invoke/VarHandle" ∧ (parseMethodDescriptor yX5_dropTag.desc).map (fun d => d.parameters.length) = some 2 := by decide +kernel
def fX5_dropTag_b5_s  (k5 : Mm → Nat → Int32 → Int32 → Int32 → Int32 → Option (Mm × Int32)) (mem : Mm) (x0 : Nat) (x1 : Int32) (x2 : Int32) (x3 : Int32) (x4 : Int32) : Option (Mm × Int32) :=
  if (6 : Int32) ≤ x4 then some (mem, x3) else gd x4 6 (lkN ((x0 + 1) + 1 + 1 * x4.toNatClampNeg) (fun b3 => if (mem b3 0) = 0 then k5 mem x0 x1 x2 x3 (x4 + (1 : Int32)) else if (mem b3 1) = x1 then if x2 = 0 then bd (fX3_isGlobal mem b3) (fun r8 => if r8 = 0 then wk mem b3 0 (0 : Int32) (fun m10 => k5 m10 x0 x1 x2 (x3 + (1 : Int32)) (x4 + (1 : Int32))) else k5 mem x0 x1 x2 x3 (x4 + (1 : Int32))) else wk mem b3 0 (0 : Int32) (fun m7 => k5 m7 x0 x1 x2 (x3 + (1 : Int32)) (x4 + (1 : Int32))) else k5 mem x0 x1 x2 x3 (x4 + (1 : Int32))))
def fX5_dropTag_b5  : Nat → Mm → Nat → Int32 → Int32 → Int32 → Int32 → Option (Mm × Int32)
  | 0 => fun _ _ _ _ _ _ => none
  | n + 1 => fX5_dropTag_b5_s  (fX5_dropTag_b5  n)
set_option maxRecDepth 100000 in
set_option maxHeartbeats 4000000 in
theorem wX5_dropTag_b5_s {p : Program} {l : Launch} {e : Env} {s : State} {m : MethodId} {args : Array Value} {below : List Frame} {meth : Method} {c : Code} {D : va_G} {ca : Nat → ClassId} {ad : Nat → Nat} {cap : Nat} {H : Heap} {locs : List Loc} {ls : Array Slot} {mem : Mm} {x0 : Nat} {x1 : Int32} {x2 : Int32} {x3 : Int32} {x4 : Int32}  {k5 : Mm → Nat → Int32 → Int32 → Int32 → Int32 → Option (Mm × Int32)} {mem' : Mm} {r : Int32} (X : CallFix p m c cX5_dropTag 6 s args TT RX5) (M : Mt meth (some .int))  (hk5 : ∀ (mem : Mm) (x0 : Nat) (x1 : Int32) (x2 : Int32) (x3 : Int32) (x4 : Int32) (H : Heap) (locs : List Loc) (ls : Array Slot) (hx0 : isSt x0), Wd D ca ad (layC cap) (AA ad (layC cap).length) s.heap s mem H locs → lv_has ls 6 [(0, .ref (ad x0)), (1, .int x1), (2, .int x2), (3, .int x3), (4, .int x4)] → k5 mem x0 x1 x2 x3 x4 = some (mem', r) → W p l e (rmx 1 20) s m args below meth c H locs 0 0 (EndI D ca ad (layC cap) mem' r below args s) (F0 m 5 ls [])) (hx0 : isSt x0) (w : Wd D ca ad (layC cap) (AA ad (layC cap).length) s.heap s mem H locs) (hl : lv_has ls 6 [(0, .ref (ad x0)), (1, .int x1), (2, .int x2), (3, .int x3), (4, .int x4)]) (h : fX5_dropTag_b5_s  k5 mem x0 x1 x2 x3 x4 = some (mem', r)) : W p l e (rmx 1 20) s m args below meth c H locs 0 0 (EndI D ca ad (layC cap) mem' r below args s) (F0 m 5 ls []) := by
  unfold fX5_dropTag_b5_s at h
  refine lv_iload X.1 X.2.1 dX5_dropTag_5 (lv_at hl 4 rfl) ?_
  refine lv_bipush (v := (6 : Int32)) X.1 X.2.1 dX5_dropTag_7 (by decide) ?_
  refine lv_icmp_ge (tgt := 65) X.1 X.2.1 dX5_dropTag_9 (by decide) (fun c1 => ?_) (fun c1 => ?_)
  · rw [if_pos c1] at h
    refine lv_iload_n X.1 X.2.1 dX5_dropTag_65 rfl (lv_at hl 3 rfl) ?_
    obtain ⟨rfl, rfl⟩ := Prod.mk.inj (Option.some.inj h)
    exact r_iret X M w dX5_dropTag_66
  · rw [if_neg c1] at h
    refine lv_aload_n X.1 X.2.1 dX5_dropTag_12 rfl (lv_at hl 0 rfl) ?_
    refine r_getr (b2 := (x0 + 1)) X w (lySt hx0) rfl inT5 0 rfl rfl (by decide) rfl tw_170 dX5_dropTag_13 ?_
    refine lv_iload X.1 X.2.1 dX5_dropTag_16 (lv_at hl 4 rfl) ?_
    obtain ⟨hi2, h⟩ := gd_some h
    obtain ⟨b3, eb3, h⟩ := lkN_some h
    refine r_aald X w (t := 2) (lySA hx0) rfl hi2 eb3 dX5_dropTag_18 ?_
    have hb3 : isPl b3 := isPl_of hx0 hi2 eb3
    refine lv_astore (lv' := [(5, .ref (ad b3)), (0, .ref (ad x0)), (1, .int x1), (2, .int x2), (3, .int x3), (4, .int x4)]) X.1 X.2.1 dX5_dropTag_19 hl (by decide) rfl (fun ls hl => ?_)
    refine lv_aload X.1 X.2.1 dX5_dropTag_21 (lv_at hl 0 rfl) ?_
    refine r_get X w (lyPl hb3) rfl inT3 0 rfl (by decide) rfl tw_134 dX5_dropTag_23 ?_
    refine lv_if_eq (tgt := 59) X.1 X.2.1 dX5_dropTag_26 (by decide) (fun c4 => ?_) (fun c4 => ?_)
    · rw [if_pos c4] at h
      refine lv_iinc (v := (x4 + (1 : Int32))) (lv' := [(4, .int (x4 + (1 : Int32))), (5, .ref (ad b3)), (0, .ref (ad x0)), (1, .int x1), (2, .int x2), (3, .int x3)]) X.1 X.2.1 dX5_dropTag_59 hl (k := 5) rfl rfl (by decide) rfl (fun ls hl => ?_)
      refine lv_goto (tgt := 5) X.1 X.2.1 dX5_dropTag_62 (by decide) ?_
      exact hk5 _ _ _ _ _ _ H locs ls hx0 w (lv_sub hl [2, 3, 4, 5, 0] rfl) h
    · rw [if_neg c4] at h
      refine lv_aload X.1 X.2.1 dX5_dropTag_29 (lv_at hl 0 rfl) ?_
      refine r_get X w (lyPl hb3) rfl inT3 1 rfl (by decide) rfl tw_136 dX5_dropTag_31 ?_
      refine lv_iload_n X.1 X.2.1 dX5_dropTag_34 rfl (lv_at hl 2 rfl) ?_
      refine lv_icmp_ne (tgt := 59) X.1 X.2.1 dX5_dropTag_35 (by decide) (fun c5 => ?_) (fun c5 => ?_)
      · rw [if_neg c5] at h
        refine lv_iinc (v := (x4 + (1 : Int32))) (lv' := [(4, .int (x4 + (1 : Int32))), (5, .ref (ad b3)), (0, .ref (ad x0)), (1, .int x1), (2, .int x2), (3, .int x3)]) X.1 X.2.1 dX5_dropTag_59 hl (k := 5) rfl rfl (by decide) rfl (fun ls hl => ?_)
        refine lv_goto (tgt := 5) X.1 X.2.1 dX5_dropTag_62 (by decide) ?_
        exact hk5 _ _ _ _ _ _ H locs ls hx0 w (lv_sub hl [2, 3, 4, 5, 0] rfl) h
      · rw [if_pos c5] at h
        refine lv_iload_n X.1 X.2.1 dX5_dropTag_38 rfl (lv_at hl 3 rfl) ?_
        refine lv_if_ne (tgt := 50) X.1 X.2.1 dX5_dropTag_39 (by decide) (fun c6 => ?_) (fun c6 => ?_)
        · rw [if_neg c6] at h
          refine lv_aload X.1 X.2.1 dX5_dropTag_50 (lv_at hl 0 rfl) ?_
          refine lv_iconst (v := (0 : Int32)) X.1 X.2.1 dX5_dropTag_52 (by decide) ?_
          refine r_put X w (lyPl hb3) rfl inT3 tyX3 tyX3_ok nmX3 0 rfl (by decide) rfl rfl tw_134 rfl rfl dX5_dropTag_53 (fun H locs w => ?_)
          obtain ⟨m7, em7, h⟩ := wk_some h
          rw [em7] at w
          refine lv_iinc (v := (x3 + (1 : Int32))) (lv' := [(3, .int (x3 + (1 : Int32))), (5, .ref (ad b3)), (0, .ref (ad x0)), (1, .int x1), (2, .int x2), (4, .int x4)]) X.1 X.2.1 dX5_dropTag_56 hl (k := 4) rfl rfl (by decide) rfl (fun ls hl => ?_)
          refine lv_iinc (v := (x4 + (1 : Int32))) (lv' := [(4, .int (x4 + (1 : Int32))), (3, .int (x3 + (1 : Int32))), (5, .ref (ad b3)), (0, .ref (ad x0)), (1, .int x1), (2, .int x2)]) X.1 X.2.1 dX5_dropTag_59 hl (k := 5) rfl rfl (by decide) rfl (fun ls hl => ?_)
          refine lv_goto (tgt := 5) X.1 X.2.1 dX5_dropTag_62 (by decide) ?_
          exact hk5 _ _ _ _ _ _ H locs ls hx0 w (lv_sub hl [3, 4, 5, 1, 0] rfl) h
        · rw [if_pos c6] at h
          refine lv_aload X.1 X.2.1 dX5_dropTag_42 (lv_at hl 0 rfl) ?_
          obtain ⟨r8, hr8, h⟩ := bd_some h
          refine r_cVi (As := []) (rest := []) X w (lyPl hb3) rfl (kX3_isGlobal (cap := cap) l D ca ad mem b3 hb3 hr8) (gTV tw_434 tw_435 tw_436 tw_69 tw_437) hdX3_isGlobal (by decide) rfl hl.1 rfl (Nat.le_of_ble_eq_true rfl) dX5_dropTag_44 ⟨Nat.zero_le _, Nat.zero_le _⟩ (fun H locs w => ?_)
          refine lv_if_ne (tgt := 59) X.1 X.2.1 dX5_dropTag_47 (by decide) (fun c9 => ?_) (fun c9 => ?_)
          · rw [if_neg c9] at h
            refine lv_iinc (v := (x4 + (1 : Int32))) (lv' := [(4, .int (x4 + (1 : Int32))), (5, .ref (ad b3)), (0, .ref (ad x0)), (1, .int x1), (2, .int x2), (3, .int x3)]) X.1 X.2.1 dX5_dropTag_59 hl (k := 5) rfl rfl (by decide) rfl (fun ls hl => ?_)
            refine lv_goto (tgt := 5) X.1 X.2.1 dX5_dropTag_62 (by decide) ?_
            exact hk5 _ _ _ _ _ _ H locs ls hx0 w (lv_sub hl [2, 3, 4, 5, 0] rfl) h
          · rw [if_pos c9] at h
            refine lv_aload X.1 X.2.1 dX5_dropTag_50 (lv_at hl 0 rfl) ?_
            refine lv_iconst (v := (0 : Int32)) X.1 X.2.1 dX5_dropTag_52 (by decide) ?_
            refine r_put X w (lyPl hb3) rfl inT3 tyX3 tyX3_ok nmX3 0 rfl (by decide) rfl rfl tw_134 rfl rfl dX5_dropTag_53 (fun H locs w => ?_)
            obtain ⟨m10, em10, h⟩ := wk_some h
            rw [em10] at w
            refine lv_iinc (v := (x3 + (1 : Int32))) (lv' := [(3, .int (x3 + (1 : Int32))), (5, .ref (ad b3)), (0, .ref (ad x0)), (1, .int x1), (2, .int x2), (4, .int x4)]) X.1 X.2.1 dX5_dropTag_56 hl (k := 4) rfl rfl (by decide) rfl (fun ls hl => ?_)
            refine lv_iinc (v := (x4 + (1 : Int32))) (lv' := [(4, .int (x4 + (1 : Int32))), (3, .int (x3 + (1 : Int32))), (5, .ref (ad b3)), (0, .ref (ad x0)), (1, .int x1), (2, .int x2)]) X.1 X.2.1 dX5_dropTag_59 hl (k := 5) rfl rfl (by decide) rfl (fun ls hl => ?_)
            refine lv_goto (tgt := 5) X.1 X.2.1 dX5_dropTag_62 (by decide) ?_
            exact hk5 _ _ _ _ _ _ H locs ls hx0 w (lv_sub hl [3, 4, 5, 1, 0] rfl) h
set_option maxRecDepth 100000 in
set_option maxHeartbeats 4000000 in
theorem wX5_dropTag_b5 {p : Program} {l : Launch} {e : Env} {s : State} {m : MethodId} {args : Array Value} {below : List Frame} {meth : Method} {c : Code} {D : va_G} {ca : Nat → ClassId} {ad : Nat → Nat} {cap : Nat}  {mem' : Mm} {r : Int32} (X : CallFix p m c cX5_dropTag 6 s args TT RX5) (M : Mt meth (some .int))  : ∀ (n : Nat) (mem : Mm) (x0 : Nat) (x1 : Int32) (x2 : Int32) (x3 : Int32) (x4 : Int32) (H : Heap) (locs : List Loc) (ls : Array Slot) (hx0 : isSt x0) (_ : Wd D ca ad (layC cap) (AA ad (layC cap).length) s.heap s mem H locs) (_ : lv_has ls 6 [(0, .ref (ad x0)), (1, .int x1), (2, .int x2), (3, .int x3), (4, .int x4)]) (_ : fX5_dropTag_b5  n mem x0 x1 x2 x3 x4 = some (mem', r)), W p l e (rmx 1 20) s m args below meth c H locs 0 0 (EndI D ca ad (layC cap) mem' r below args s) (F0 m 5 ls []) := by
  intro n
  induction n with
  | zero => intro mem x0 x1 x2 x3 x4 H locs ls hx0 w hl h; exact (nofun : (none : Option (Mm × Int32)) = _ → _) h
  | succ n ih => intro mem x0 x1 x2 x3 x4 H locs ls hx0 w hl h; exact wX5_dropTag_b5_s X M  ih hx0 w hl h
def fX5_dropTag (mem : Mm) (a0 : Nat) (a1 : Int32) (a2 : Int32) : Option (Mm × Int32) :=
  fX5_dropTag_b5 2000 mem a0 a1 a2 (0 : Int32) (0 : Int32)
set_option maxRecDepth 100000 in
set_option maxHeartbeats 4000000 in
theorem kX5_dropTag {cap : Nat} (l : Launch) (D : va_G) (ca : Nat → ClassId) (ad : Nat → Nat) (mem : Mm) (a0 : Nat) (a1 : Int32) (a2 : Int32) (h0 : isSt a0) {mem' : Mm} {r : Int32} (h : fX5_dropTag mem a0 a1 a2 = some (mem', r)) : CtI l yX5_dropTag cX5_dropTag 6 (some .int) (rmx 1 20) D ca ad (layC cap) mem [.ref (ad a0), .int a1, .int a2] mem' r := by
  refine CtI.of (by decide) (Nat.le_of_ble_eq_true rfl) ?_
  intro p e s m args below meth c H locs ls X M w hl
  replace X : CallFix p m c cX5_dropTag 6 s args TT RX5 := X
  replace hl : lv_has ls 6 [(0, .ref (ad a0)), (1, .int a1), (2, .int a2)] := hl
  unfold fX5_dropTag at h
  refine lv_iconst (v := (0 : Int32)) X.1 X.2.1 dX5_dropTag_0 (by decide) ?_
  refine lv_istore_n (lv' := [(3, .int (0 : Int32)), (0, .ref (ad a0)), (1, .int a1), (2, .int a2)]) X.1 X.2.1 dX5_dropTag_1 rfl hl (by decide) rfl (fun ls hl => ?_)
  refine lv_iconst (v := (0 : Int32)) X.1 X.2.1 dX5_dropTag_2 (by decide) ?_
  refine lv_istore (lv' := [(4, .int (0 : Int32)), (3, .int (0 : Int32)), (0, .ref (ad a0)), (1, .int a1), (2, .int a2)]) X.1 X.2.1 dX5_dropTag_3 hl (by decide) rfl (fun ls hl => ?_)
  exact wX5_dropTag_b5 X M _ _ _ _ _ _ _ H locs ls h0 w (lv_sub hl [2, 3, 4, 1, 0] rfl) h
/-! WalkHouse$Store.dropAll()I (W) -/
theorem hdX5_dropAll : yX5_dropAll.cls = RX5 ∧ yX5_dropAll.cls ≠ "java/lang/invoke/MethodHandle" ∧ yX5_dropAll.cls ≠ "java/lang/invoke/VarHandle" ∧ (parseMethodDescriptor yX5_dropAll.desc).map (fun d => d.parameters.length) = some 0 := by decide +kernel
def fX5_dropAll_b7_s  (k7 : Mm → Nat → Int32 → Int32 → Option (Mm × Int32)) (mem : Mm) (x0 : Nat) (x1 : Int32) (x2 : Int32) : Option (Mm × Int32) :=
  if (6 : Int32) ≤ x2 then some (mem, x1) else gd x2 6 (lkN ((x0 + 1) + 1 + 1 * x2.toNatClampNeg) (fun b3 => wk mem b3 0 (0 : Int32) (fun m4 => k7 m4 x0 x1 (x2 + (1 : Int32)))))
def fX5_dropAll_b7  : Nat → Mm → Nat → Int32 → Int32 → Option (Mm × Int32)
  | 0 => fun _ _ _ _ => none
  | n + 1 => fX5_dropAll_b7_s  (fX5_dropAll_b7  n)
set_option maxRecDepth 100000 in
set_option maxHeartbeats 4000000 in
theorem wX5_dropAll_b7_s {p : Program} {l : Launch} {e : Env} {s : State} {m : MethodId} {args : Array Value} {below : List Frame} {meth : Method} {c : Code} {D : va_G} {ca : Nat → ClassId} {ad : Nat → Nat} {cap : Nat} {H : Heap} {locs : List Loc} {ls : Array Slot} {mem : Mm} {x0 : Nat} {x1 : Int32} {x2 : Int32}  {k7 : Mm → Nat → Int32 → Int32 → Option (Mm × Int32)} {mem' : Mm} {r : Int32} (X : CallFix p m c cX5_dropAll 3 s args TT RX5) (M : Mt meth (some .int))  (hk7 : ∀ (mem : Mm) (x0 : Nat) (x1 : Int32) (x2 : Int32) (H : Heap) (locs : List Loc) (ls : Array Slot) (hx0 : isSt x0), Wd D ca ad (layC cap) (AA ad (layC cap).length) s.heap s mem H locs → lv_has ls 3 [(0, .ref (ad x0)), (1, .int x1), (2, .int x2)] → k7 mem x0 x1 x2 = some (mem', r) → W p l e (rmx 1 22) s m args below meth c H locs 0 0 (EndI D ca ad (layC cap) mem' r below args s) (F0 m 7 ls [])) (hx0 : isSt x0) (w : Wd D ca ad (layC cap) (AA ad (layC cap).length) s.heap s mem H locs) (hl : lv_has ls 3 [(0, .ref (ad x0)), (1, .int x1), (2, .int x2)]) (h : fX5_dropAll_b7_s  k7 mem x0 x1 x2 = some (mem', r)) : W p l e (rmx 1 22) s m args below meth c H locs 0 0 (EndI D ca ad (layC cap) mem' r below args s) (F0 m 7 ls []) := by
  unfold fX5_dropAll_b7_s at h
  refine lv_iload_n X.1 X.2.1 dX5_dropAll_7 rfl (lv_at hl 2 rfl) ?_
  refine lv_bipush (v := (6 : Int32)) X.1 X.2.1 dX5_dropAll_8 (by decide) ?_
  refine lv_icmp_ge (tgt := 29) X.1 X.2.1 dX5_dropAll_10 (by decide) (fun c1 => ?_) (fun c1 => ?_)
  · rw [if_pos c1] at h
    refine lv_iload_n X.1 X.2.1 dX5_dropAll_29 rfl (lv_at hl 1 rfl) ?_
    obtain ⟨rfl, rfl⟩ := Prod.mk.inj (Option.some.inj h)
    exact r_iret X M w dX5_dropAll_30
  · rw [if_neg c1] at h
    refine lv_aload_n X.1 X.2.1 dX5_dropAll_13 rfl (lv_at hl 0 rfl) ?_
    refine r_getr (b2 := (x0 + 1)) X w (lySt hx0) rfl inT5 0 rfl rfl (by decide) rfl tw_170 dX5_dropAll_14 ?_
    refine lv_iload_n X.1 X.2.1 dX5_dropAll_17 rfl (lv_at hl 2 rfl) ?_
    obtain ⟨hi2, h⟩ := gd_some h
    obtain ⟨b3, eb3, h⟩ := lkN_some h
    refine r_aald X w (t := 2) (lySA hx0) rfl hi2 eb3 dX5_dropAll_18 ?_
    have hb3 : isPl b3 := isPl_of hx0 hi2 eb3
    refine lv_iconst (v := (0 : Int32)) X.1 X.2.1 dX5_dropAll_19 (by decide) ?_
    refine r_put X w (lyPl hb3) rfl inT3 tyX3 tyX3_ok nmX3 0 rfl (by decide) rfl rfl tw_134 rfl rfl dX5_dropAll_20 (fun H locs w => ?_)
    obtain ⟨m4, em4, h⟩ := wk_some h
    rw [em4] at w
    refine lv_iinc (v := (x2 + (1 : Int32))) (lv' := [(2, .int (x2 + (1 : Int32))), (0, .ref (ad x0)), (1, .int x1)]) X.1 X.2.1 dX5_dropAll_23 hl (k := 2) rfl rfl (by decide) rfl (fun ls hl => ?_)
    refine lv_goto (tgt := 7) X.1 X.2.1 dX5_dropAll_26 (by decide) ?_
    exact hk7 _ _ _ _ H locs ls hx0 w (lv_sub hl [1, 2, 0] rfl) h
set_option maxRecDepth 100000 in
set_option maxHeartbeats 4000000 in
theorem wX5_dropAll_b7 {p : Program} {l : Launch} {e : Env} {s : State} {m : MethodId} {args : Array Value} {below : List Frame} {meth : Method} {c : Code} {D : va_G} {ca : Nat → ClassId} {ad : Nat → Nat} {cap : Nat}  {mem' : Mm} {r : Int32} (X : CallFix p m c cX5_dropAll 3 s args TT RX5) (M : Mt meth (some .int))  : ∀ (n : Nat) (mem : Mm) (x0 : Nat) (x1 : Int32) (x2 : Int32) (H : Heap) (locs : List Loc) (ls : Array Slot) (hx0 : isSt x0) (_ : Wd D ca ad (layC cap) (AA ad (layC cap).length) s.heap s mem H locs) (_ : lv_has ls 3 [(0, .ref (ad x0)), (1, .int x1), (2, .int x2)]) (_ : fX5_dropAll_b7  n mem x0 x1 x2 = some (mem', r)), W p l e (rmx 1 22) s m args below meth c H locs 0 0 (EndI D ca ad (layC cap) mem' r below args s) (F0 m 7 ls []) := by
  intro n
  induction n with
  | zero => intro mem x0 x1 x2 H locs ls hx0 w hl h; exact (nofun : (none : Option (Mm × Int32)) = _ → _) h
  | succ n ih => intro mem x0 x1 x2 H locs ls hx0 w hl h; exact wX5_dropAll_b7_s X M  ih hx0 w hl h
def fX5_dropAll (mem : Mm) (a0 : Nat) : Option (Mm × Int32) :=
  bd (fX5_held mem a0) (fun r1 => fX5_dropAll_b7 2000 mem a0 r1 (0 : Int32))
set_option maxRecDepth 100000 in
set_option maxHeartbeats 4000000 in
theorem kX5_dropAll {cap : Nat} (l : Launch) (D : va_G) (ca : Nat → ClassId) (ad : Nat → Nat) (mem : Mm) (a0 : Nat) (h0 : isSt a0) {mem' : Mm} {r : Int32} (h : fX5_dropAll mem a0 = some (mem', r)) : CtI l yX5_dropAll cX5_dropAll 3 (some .int) (rmx 1 22) D ca ad (layC cap) mem [.ref (ad a0)] mem' r := by
  refine CtI.of (by decide) (Nat.le_of_ble_eq_true rfl) ?_
  intro p e s m args below meth c H locs ls X M w hl
  replace X : CallFix p m c cX5_dropAll 3 s args TT RX5 := X
  replace hl : lv_has ls 3 [(0, .ref (ad a0))] := hl
  unfold fX5_dropAll at h
  refine lv_aload_n X.1 X.2.1 dX5_dropAll_0 rfl (lv_at hl 0 rfl) ?_
  obtain ⟨r1, hr1, h⟩ := bd_some h
  refine r_cVi (As := []) (rest := []) X w (lySt h0) rfl (kX5_held (cap := cap) l D ca ad mem a0 h0 hr1) (gTV tw_648 tw_649 tw_650 tw_68 tw_651) hdX5_held (by decide) rfl hl.1 rfl (Nat.le_of_ble_eq_true rfl) dX5_dropAll_1 ⟨Nat.zero_le _, Nat.zero_le _⟩ (fun H locs w => ?_)
  refine lv_istore_n (lv' := [(1, .int r1), (0, .ref (ad a0))]) X.1 X.2.1 dX5_dropAll_4 rfl hl (by decide) rfl (fun ls hl => ?_)
  refine lv_iconst (v := (0 : Int32)) X.1 X.2.1 dX5_dropAll_5 (by decide) ?_
  refine lv_istore_n (lv' := [(2, .int (0 : Int32)), (1, .int r1), (0, .ref (ad a0))]) X.1 X.2.1 dX5_dropAll_6 rfl hl (by decide) rfl (fun ls hl => ?_)
  exact wX5_dropAll_b7 X M _ _ _ _ _ H locs ls h0 w (lv_sub hl [2, 1, 0] rfl) h
/-! WalkHouse$Walk.reset(IIZI)V (W) -/
theorem hdX6_reset : yX6_reset.cls = RX6 ∧ yX6_reset.cls ≠ "java/lang/invoke/MethodHandle" ∧ yX6_reset.cls ≠ "java/lang/invoke/VarHandle" ∧ (parseMethodDescriptor yX6_reset.desc).map (fun d => d.parameters.length) = some 4 := by decide +kernel
def fX6_reset (mem : Mm) (a0 : Nat) (a1 : Int32) (a2 : Int32) (a3 : Int32) (a4 : Int32) : Option (Mm × Unit) :=
  wk mem a0 1 a1 (fun m1 => wk m1 a0 2 a2 (fun m2 => gz a3 (wk m2 a0 3 a3 (fun m4 => wk m4 a0 4 a4 (fun m5 => wk m5 a0 8 (0 : Int32) (fun m6 => bw (fJ7_fill_53178 m6 3 (a0 + 1) (-1 : Int32)) (fun m8 r7 => some (m8, ()))))))))
set_option maxRecDepth 100000 in
set_option maxHeartbeats 4000000 in
theorem kX6_reset {cap : Nat} (l : Launch) (D : va_G) (ca : Nat → ClassId) (ad : Nat → Nat) (mem : Mm) (a0 : Nat) (a1 : Int32) (a2 : Int32) (a3 : Int32) (a4 : Int32) (h0 : isWk a0) {mem' : Mm} {r : Unit} (h : fX6_reset mem a0 a1 a2 a3 a4 = some (mem', r)) : CtV l yX6_reset cX6_reset 5 none (rmx 1 23) D ca ad (layC cap) mem [.ref (ad a0), .int a1, .int a2, .int a3, .int a4] mem' := by
  refine CtV.of (by decide) (Nat.le_of_ble_eq_true rfl) ?_
  intro p e s m args below meth c H locs ls X M w hl
  replace X : CallFix p m c cX6_reset 5 s args TT RX6 := X
  replace hl : lv_has ls 5 [(0, .ref (ad a0)), (1, .int a1), (2, .int a2), (3, .int a3), (4, .int a4)] := hl
  unfold fX6_reset at h
  refine lv_aload_n X.1 X.2.1 dX6_reset_0 rfl (lv_at hl 0 rfl) ?_
  refine lv_iload_n X.1 X.2.1 dX6_reset_1 rfl (lv_at hl 1 rfl) ?_
  refine r_put X w (lyWk h0) rfl inT6 tyX6 tyX6_ok nmX6 1 rfl (by decide) rfl rfl tw_187 rfl rfl dX6_reset_2 (fun H locs w => ?_)
  obtain ⟨m1, em1, h⟩ := wk_some h
  rw [em1] at w
  refine lv_aload_n X.1 X.2.1 dX6_reset_5 rfl (lv_at hl 0 rfl) ?_
  refine lv_iload_n X.1 X.2.1 dX6_reset_6 rfl (lv_at hl 2 rfl) ?_
  refine r_put X w (lyWk h0) rfl inT6 tyX6 tyX6_ok nmX6 2 rfl (by decide) rfl rfl tw_189 rfl rfl dX6_reset_7 (fun H locs w => ?_)
  obtain ⟨m2, em2, h⟩ := wk_some h
  rw [em2] at w
  refine lv_aload_n X.1 X.2.1 dX6_reset_10 rfl (lv_at hl 0 rfl) ?_
  refine lv_iload_n X.1 X.2.1 dX6_reset_11 rfl (lv_at hl 3 rfl) ?_
  obtain ⟨hz3, h⟩ := gz_some h
  refine r_put X w (lyWk h0) rfl inT6 tyX6 tyX6_ok nmX6 3 rfl (by decide) rfl rfl tw_191 (by simp only [tyX6, narrow]; rw [hz3]) (fitsZ hz3) dX6_reset_12 (fun H locs w => ?_)
  obtain ⟨m4, em4, h⟩ := wk_some h
  rw [em4] at w
  refine lv_aload_n X.1 X.2.1 dX6_reset_15 rfl (lv_at hl 0 rfl) ?_
  refine lv_iload X.1 X.2.1 dX6_reset_16 (lv_at hl 4 rfl) ?_
  refine r_put X w (lyWk h0) rfl inT6 tyX6 tyX6_ok nmX6 4 rfl (by decide) rfl rfl tw_193 rfl rfl dX6_reset_18 (fun H locs w => ?_)
  obtain ⟨m5, em5, h⟩ := wk_some h
  rw [em5] at w
  refine lv_aload_n X.1 X.2.1 dX6_reset_21 rfl (lv_at hl 0 rfl) ?_
  refine lv_iconst (v := (0 : Int32)) X.1 X.2.1 dX6_reset_22 (by decide) ?_
  refine r_put X w (lyWk h0) rfl inT6 tyX6 tyX6_ok nmX6 8 rfl (by decide) rfl rfl tw_201 rfl rfl dX6_reset_23 (fun H locs w => ?_)
  obtain ⟨m6, em6, h⟩ := wk_some h
  rw [em6] at w
  refine lv_aload_n X.1 X.2.1 dX6_reset_26 rfl (lv_at hl 0 rfl) ?_
  refine r_getr (b2 := (a0 + 1)) X w (lyWk h0) rfl inT6 10 rfl rfl (by decide) rfl tw_205 dX6_reset_27 ?_
  refine lv_iconst (v := (-1 : Int32)) X.1 X.2.1 dX6_reset_30 (by decide) ?_
  obtain ⟨m8, r7, hr7, h⟩ := bw_some h
  refine r_cSv (As := [.ref (ad (a0 + 1)), .int (-1 : Int32)]) (rest := []) X w (kJ7_fill_53178 (lay := layC cap) l D ca ad m6 3 (a0 + 1) (-1 : Int32) (lyWC h0) hr7) (gTS tw_504 tw_98 tw_67 tw_99) hdJ7_fill_53178 (by decide) rfl hl.1 rfl (Nat.le_of_ble_eq_true rfl) dX6_reset_31 ⟨Nat.zero_le _, Nat.zero_le _⟩ (fun H locs w => ?_)
  obtain ⟨rfl, -⟩ := Prod.mk.inj (Option.some.inj h)
  exact r_vret X M w dX6_reset_34
/-! WalkHouse$Walk.leadOn(III)V (W) -/
theorem hdX6_leadOn : yX6_leadOn.cls = RX6 ∧ yX6_leadOn.cls ≠ "java/lang/invoke/MethodHandle" ∧ yX6_leadOn.cls ≠ "java/lang/invoke/VarHandle" ∧ (parseMethodDescriptor yX6_leadOn.desc).map (fun d => d.parameters.length) = some 3 := by decide +kernel
def fX6_leadOn (mem : Mm) (a0 : Nat) (a1 : Int32) (a2 : Int32) (a3 : Int32) : Option (Mm × Unit) :=
  wk mem a0 0 (1 : Int32) (fun m1 => wk m1 a0 5 a1 (fun m2 => wk m2 a0 6 a2 (fun m3 => wk m3 a0 7 a3 (fun m4 => some (m4, ())))))
set_option maxRecDepth 100000 in
set_option maxHeartbeats 4000000 in
theorem kX6_leadOn {cap : Nat} (l : Launch) (D : va_G) (ca : Nat → ClassId) (ad : Nat → Nat) (mem : Mm) (a0 : Nat) (a1 : Int32) (a2 : Int32) (a3 : Int32) (h0 : isWk a0) {mem' : Mm} {r : Unit} (h : fX6_leadOn mem a0 a1 a2 a3 = some (mem', r)) : CtV l yX6_leadOn cX6_leadOn 4 none (rmx 0 0) D ca ad (layC cap) mem [.ref (ad a0), .int a1, .int a2, .int a3] mem' := by
  refine CtV.of (by decide) (Nat.le_of_ble_eq_true rfl) ?_
  intro p e s m args below meth c H locs ls X M w hl
  replace X : CallFix p m c cX6_leadOn 4 s args TT RX6 := X
  replace hl : lv_has ls 4 [(0, .ref (ad a0)), (1, .int a1), (2, .int a2), (3, .int a3)] := hl
  unfold fX6_leadOn at h
  refine lv_aload_n X.1 X.2.1 dX6_leadOn_0 rfl (lv_at hl 0 rfl) ?_
  refine lv_iconst (v := (1 : Int32)) X.1 X.2.1 dX6_leadOn_1 (by decide) ?_
  refine r_put X w (lyWk h0) rfl inT6 tyX6 tyX6_ok nmX6 0 rfl (by decide) rfl rfl tw_185 rfl rfl dX6_leadOn_2 (fun H locs w => ?_)
  obtain ⟨m1, em1, h⟩ := wk_some h
  rw [em1] at w
  refine lv_aload_n X.1 X.2.1 dX6_leadOn_5 rfl (lv_at hl 0 rfl) ?_
  refine lv_iload_n X.1 X.2.1 dX6_leadOn_6 rfl (lv_at hl 1 rfl) ?_
  refine r_put X w (lyWk h0) rfl inT6 tyX6 tyX6_ok nmX6 5 rfl (by decide) rfl rfl tw_195 rfl rfl dX6_leadOn_7 (fun H locs w => ?_)
  obtain ⟨m2, em2, h⟩ := wk_some h
  rw [em2] at w
  refine lv_aload_n X.1 X.2.1 dX6_leadOn_10 rfl (lv_at hl 0 rfl) ?_
  refine lv_iload_n X.1 X.2.1 dX6_leadOn_11 rfl (lv_at hl 2 rfl) ?_
  refine r_put X w (lyWk h0) rfl inT6 tyX6 tyX6_ok nmX6 6 rfl (by decide) rfl rfl tw_197 rfl rfl dX6_leadOn_12 (fun H locs w => ?_)
  obtain ⟨m3, em3, h⟩ := wk_some h
  rw [em3] at w
  refine lv_aload_n X.1 X.2.1 dX6_leadOn_15 rfl (lv_at hl 0 rfl) ?_
  refine lv_iload_n X.1 X.2.1 dX6_leadOn_16 rfl (lv_at hl 3 rfl) ?_
  refine r_put X w (lyWk h0) rfl inT6 tyX6 tyX6_ok nmX6 7 rfl (by decide) rfl rfl tw_199 rfl rfl dX6_leadOn_17 (fun H locs w => ?_)
  obtain ⟨m4, em4, h⟩ := wk_some h
  rw [em4] at w
  obtain ⟨rfl, -⟩ := Prod.mk.inj (Option.some.inj h)
  exact r_vret X M w dX6_leadOn_20
/-! WalkHouse$Walk.finish(I)V (W) -/
theorem hdX6_finish : yX6_finish.cls = RX6 ∧ yX6_finish.cls ≠ "java/lang/invoke/MethodHandle" ∧ yX6_finish.cls ≠ "java/lang/invoke/VarHandle" ∧ (parseMethodDescriptor yX6_finish.desc).map (fun d => d.parameters.length) = some 1 := by decide +kernel
def fX6_finish (mem : Mm) (a0 : Nat) (a1 : Int32) : Option (Mm × Unit) :=
  wk mem a0 0 (2 : Int32) (fun m1 => wk m1 a0 9 a1 (fun m2 => some (m2, ())))
set_option maxRecDepth 100000 in
set_option maxHeartbeats 4000000 in
theorem kX6_finish {cap : Nat} (l : Launch) (D : va_G) (ca : Nat → ClassId) (ad : Nat → Nat) (mem : Mm) (a0 : Nat) (a1 : Int32) (h0 : isWk a0) {mem' : Mm} {r : Unit} (h : fX6_finish mem a0 a1 = some (mem', r)) : CtV l yX6_finish cX6_finish 2 none (rmx 0 0) D ca ad (layC cap) mem [.ref (ad a0), .int a1] mem' := by
  refine CtV.of (by decide) (Nat.le_of_ble_eq_true rfl) ?_
  intro p e s m args below meth c H locs ls X M w hl
  replace X : CallFix p m c cX6_finish 2 s args TT RX6 := X
  replace hl : lv_has ls 2 [(0, .ref (ad a0)), (1, .int a1)] := hl
  unfold fX6_finish at h
  refine lv_aload_n X.1 X.2.1 dX6_finish_0 rfl (lv_at hl 0 rfl) ?_
  refine lv_iconst (v := (2 : Int32)) X.1 X.2.1 dX6_finish_1 (by decide) ?_
  refine r_put X w (lyWk h0) rfl inT6 tyX6 tyX6_ok nmX6 0 rfl (by decide) rfl rfl tw_185 rfl rfl dX6_finish_2 (fun H locs w => ?_)
  obtain ⟨m1, em1, h⟩ := wk_some h
  rw [em1] at w
  refine lv_aload_n X.1 X.2.1 dX6_finish_5 rfl (lv_at hl 0 rfl) ?_
  refine lv_iload_n X.1 X.2.1 dX6_finish_6 rfl (lv_at hl 1 rfl) ?_
  refine r_put X w (lyWk h0) rfl inT6 tyX6 tyX6_ok nmX6 9 rfl (by decide) rfl rfl tw_203 rfl rfl dX6_finish_7 (fun H locs w => ?_)
  obtain ⟨m2, em2, h⟩ := wk_some h
  rw [em2] at w
  obtain ⟨rfl, -⟩ := Prod.mk.inj (Option.some.inj h)
  exact r_vret X M w dX6_finish_10
/-! WalkHouse$Walk.fail(I)V (W) -/
theorem hdX6_fail : yX6_fail.cls = RX6 ∧ yX6_fail.cls ≠ "java/lang/invoke/MethodHandle" ∧ yX6_fail.cls ≠ "java/lang/invoke/VarHandle" ∧ (parseMethodDescriptor yX6_fail.desc).map (fun d => d.parameters.length) = some 1 := by decide +kernel
def fX6_fail (mem : Mm) (a0 : Nat) (a1 : Int32) : Option (Mm × Unit) :=
  wk mem a0 0 (3 : Int32) (fun m1 => wk m1 a0 9 a1 (fun m2 => some (m2, ())))
set_option maxRecDepth 100000 in
set_option maxHeartbeats 4000000 in
theorem kX6_fail {cap : Nat} (l : Launch) (D : va_G) (ca : Nat → ClassId) (ad : Nat → Nat) (mem : Mm) (a0 : Nat) (a1 : Int32) (h0 : isWk a0) {mem' : Mm} {r : Unit} (h : fX6_fail mem a0 a1 = some (mem', r)) : CtV l yX6_fail cX6_fail 2 none (rmx 0 0) D ca ad (layC cap) mem [.ref (ad a0), .int a1] mem' := by
  refine CtV.of (by decide) (Nat.le_of_ble_eq_true rfl) ?_
  intro p e s m args below meth c H locs ls X M w hl
  replace X : CallFix p m c cX6_fail 2 s args TT RX6 := X
  replace hl : lv_has ls 2 [(0, .ref (ad a0)), (1, .int a1)] := hl
  unfold fX6_fail at h
  refine lv_aload_n X.1 X.2.1 dX6_fail_0 rfl (lv_at hl 0 rfl) ?_
  refine lv_iconst (v := (3 : Int32)) X.1 X.2.1 dX6_fail_1 (by decide) ?_
  refine r_put X w (lyWk h0) rfl inT6 tyX6 tyX6_ok nmX6 0 rfl (by decide) rfl rfl tw_185 rfl rfl dX6_fail_2 (fun H locs w => ?_)
  obtain ⟨m1, em1, h⟩ := wk_some h
  rw [em1] at w
  refine lv_aload_n X.1 X.2.1 dX6_fail_5 rfl (lv_at hl 0 rfl) ?_
  refine lv_iload_n X.1 X.2.1 dX6_fail_6 rfl (lv_at hl 1 rfl) ?_
  refine r_put X w (lyWk h0) rfl inT6 tyX6 tyX6_ok nmX6 9 rfl (by decide) rfl rfl tw_203 rfl rfl dX6_fail_7 (fun H locs w => ?_)
  obtain ⟨m2, em2, h⟩ := wk_some h
  rw [em2] at w
  obtain ⟨rfl, -⟩ := Prod.mk.inj (Option.some.inj h)
  exact r_vret X M w dX6_fail_10
/-! WalkHouse$Walk.abort()V (W) -/
theorem hdX6_abort : yX6_abort.cls = RX6 ∧ yX6_abort.cls ≠ "java/lang/invoke/MethodHandle" ∧ yX6_abort.cls ≠ "java/lang/invoke/VarHandle" ∧ (parseMethodDescriptor yX6_abort.desc).map (fun d => d.parameters.length) = some 0 := by decide +kernel
def fX6_abort (mem : Mm) (a0 : Nat) : Option (Mm × Unit) :=
  if (mem a0 0) = (1 : Int32) then wk mem a0 0 (4 : Int32) (fun m2 => some (m2, ())) else some (mem, ())
set_option maxRecDepth 100000 in
set_option maxHeartbeats 4000000 in
theorem kX6_abort {cap : Nat} (l : Launch) (D : va_G) (ca : Nat → ClassId) (ad : Nat → Nat) (mem : Mm) (a0 : Nat) (h0 : isWk a0) {mem' : Mm} {r : Unit} (h : fX6_abort mem a0 = some (mem', r)) : CtV l yX6_abort cX6_abort 1 none (rmx 0 0) D ca ad (layC cap) mem [.ref (ad a0)] mem' := by
  refine CtV.of (by decide) (Nat.le_of_ble_eq_true rfl) ?_
  intro p e s m args below meth c H locs ls X M w hl
  replace X : CallFix p m c cX6_abort 1 s args TT RX6 := X
  replace hl : lv_has ls 1 [(0, .ref (ad a0))] := hl
  unfold fX6_abort at h
  refine lv_aload_n X.1 X.2.1 dX6_abort_0 rfl (lv_at hl 0 rfl) ?_
  refine r_get X w (lyWk h0) rfl inT6 0 rfl (by decide) rfl tw_185 dX6_abort_1 ?_
  refine lv_iconst (v := (1 : Int32)) X.1 X.2.1 dX6_abort_4 (by decide) ?_
  refine lv_icmp_ne (tgt := 13) X.1 X.2.1 dX6_abort_5 (by decide) (fun c1 => ?_) (fun c1 => ?_)
  · rw [if_neg c1] at h
    obtain ⟨rfl, -⟩ := Prod.mk.inj (Option.some.inj h)
    exact r_vret X M w dX6_abort_13
  · rw [if_pos c1] at h
    refine lv_aload_n X.1 X.2.1 dX6_abort_8 rfl (lv_at hl 0 rfl) ?_
    refine lv_iconst (v := (4 : Int32)) X.1 X.2.1 dX6_abort_9 (by decide) ?_
    refine r_put X w (lyWk h0) rfl inT6 tyX6 tyX6_ok nmX6 0 rfl (by decide) rfl rfl tw_185 rfl rfl dX6_abort_10 (fun H locs w => ?_)
    obtain ⟨m2, em2, h⟩ := wk_some h
    rw [em2] at w
    obtain ⟨rfl, -⟩ := Prod.mk.inj (Option.some.inj h)
    exact r_vret X M w dX6_abort_13
/-! WalkHouse$Walk.hasRead(I)Z (R) -/
theorem hdX6_hasRead : yX6_hasRead.cls = RX6 ∧ yX6_hasRead.cls ≠ "java/lang/invoke/MethodHandle" ∧ yX6_hasRead.cls ≠ "java/lang/invoke/VarHandle" ∧ (parseMethodDescriptor yX6_hasRead.desc).map (fun d => d.parameters.length) = some 1 := by decide +kernel
def fX6_hasRead (mem : Mm) (a0 : Nat) (a1 : Int32) : Option Int32 :=
  gd (2 : Int32) 3 (if (mem (a0 + 1) (2 : Int32).toNatClampNeg) = a1 then some (1 : Int32) else gd (1 : Int32) 3 (if (mem (a0 + 1) (1 : Int32).toNatClampNeg) = a1 then some (1 : Int32) else gd (0 : Int32) 3 (if (mem (a0 + 1) (0 : Int32).toNatClampNeg) = a1 then some (1 : Int32) else some (0 : Int32))))
set_option maxRecDepth 100000 in
set_option maxHeartbeats 4000000 in
theorem kX6_hasRead {cap : Nat} (l : Launch) (D : va_G) (ca : Nat → ClassId) (ad : Nat → Nat) (mem : Mm) (a0 : Nat) (a1 : Int32) (h0 : isWk a0) {r : Int32} (h : fX6_hasRead mem a0 a1 = some r) : CtI l yX6_hasRead cX6_hasRead 2 (some .boolean) (rmx 0 0) D ca ad (layC cap) mem [.ref (ad a0), .int a1] mem r := by
  refine CtI.of (by decide) (Nat.le_of_ble_eq_true rfl) ?_
  intro p e s m args below meth c H locs ls X M w hl
  replace X : CallFix p m c cX6_hasRead 2 s args TT RX6 := X
  replace hl : lv_has ls 2 [(0, .ref (ad a0)), (1, .int a1)] := hl
  unfold fX6_hasRead at h
  refine lv_aload_n X.1 X.2.1 dX6_hasRead_0 rfl (lv_at hl 0 rfl) ?_
  refine r_getr (b2 := (a0 + 1)) X w (lyWk h0) rfl inT6 10 rfl rfl (by decide) rfl tw_205 dX6_hasRead_1 ?_
  refine lv_iconst (v := (2 : Int32)) X.1 X.2.1 dX6_hasRead_4 (by decide) ?_
  obtain ⟨hi1, h⟩ := gd_some h
  refine r_iald X w (lyWC h0) hi1 dX6_hasRead_5 ?_
  refine lv_iload_n X.1 X.2.1 dX6_hasRead_6 rfl (lv_at hl 1 rfl) ?_
  refine lv_icmp_eq (tgt := 30) X.1 X.2.1 dX6_hasRead_7 (by decide) (fun c2 => ?_) (fun c2 => ?_)
  · rw [if_pos c2] at h
    refine lv_iconst (v := (1 : Int32)) X.1 X.2.1 dX6_hasRead_30 (by decide) ?_
    refine lv_goto (tgt := 35) X.1 X.2.1 dX6_hasRead_31 (by decide) ?_
    obtain rfl := Option.some.inj h
    exact r_zret X M w (by decide) dX6_hasRead_35
  · rw [if_neg c2] at h
    refine lv_aload_n X.1 X.2.1 dX6_hasRead_10 rfl (lv_at hl 0 rfl) ?_
    refine r_getr (b2 := (a0 + 1)) X w (lyWk h0) rfl inT6 10 rfl rfl (by decide) rfl tw_205 dX6_hasRead_11 ?_
    refine lv_iconst (v := (1 : Int32)) X.1 X.2.1 dX6_hasRead_14 (by decide) ?_
    obtain ⟨hi3, h⟩ := gd_some h
    refine r_iald X w (lyWC h0) hi3 dX6_hasRead_15 ?_
    refine lv_iload_n X.1 X.2.1 dX6_hasRead_16 rfl (lv_at hl 1 rfl) ?_
    refine lv_icmp_eq (tgt := 30) X.1 X.2.1 dX6_hasRead_17 (by decide) (fun c4 => ?_) (fun c4 => ?_)
    · rw [if_pos c4] at h
      refine lv_iconst (v := (1 : Int32)) X.1 X.2.1 dX6_hasRead_30 (by decide) ?_
      refine lv_goto (tgt := 35) X.1 X.2.1 dX6_hasRead_31 (by decide) ?_
      obtain rfl := Option.some.inj h
      exact r_zret X M w (by decide) dX6_hasRead_35
    · rw [if_neg c4] at h
      refine lv_aload_n X.1 X.2.1 dX6_hasRead_20 rfl (lv_at hl 0 rfl) ?_
      refine r_getr (b2 := (a0 + 1)) X w (lyWk h0) rfl inT6 10 rfl rfl (by decide) rfl tw_205 dX6_hasRead_21 ?_
      refine lv_iconst (v := (0 : Int32)) X.1 X.2.1 dX6_hasRead_24 (by decide) ?_
      obtain ⟨hi5, h⟩ := gd_some h
      refine r_iald X w (lyWC h0) hi5 dX6_hasRead_25 ?_
      refine lv_iload_n X.1 X.2.1 dX6_hasRead_26 rfl (lv_at hl 1 rfl) ?_
      refine lv_icmp_ne (tgt := 34) X.1 X.2.1 dX6_hasRead_27 (by decide) (fun c6 => ?_) (fun c6 => ?_)
      · rw [if_neg c6] at h
        refine lv_iconst (v := (0 : Int32)) X.1 X.2.1 dX6_hasRead_34 (by decide) ?_
        obtain rfl := Option.some.inj h
        exact r_zret X M w (by decide) dX6_hasRead_35
      · rw [if_pos c6] at h
        refine lv_iconst (v := (1 : Int32)) X.1 X.2.1 dX6_hasRead_30 (by decide) ?_
        refine lv_goto (tgt := 35) X.1 X.2.1 dX6_hasRead_31 (by decide) ?_
        obtain rfl := Option.some.inj h
        exact r_zret X M w (by decide) dX6_hasRead_35
/-! WalkHouse$Walk.answer()I (R) -/
theorem hdX6_answer : yX6_answer.cls = RX6 ∧ yX6_answer.cls ≠ "java/lang/invoke/MethodHandle" ∧ yX6_answer.cls ≠ "java/lang/invoke/VarHandle" ∧ (parseMethodDescriptor yX6_answer.desc).map (fun d => d.parameters.length) = some 0 := by decide +kernel
def fX6_answer (mem : Mm) (a0 : Nat) : Option Int32 :=
  if (mem a0 0) = (3 : Int32) then some ((-2 : Int32) - (mem a0 9)) else some (mem a0 9)
set_option maxRecDepth 100000 in
set_option maxHeartbeats 4000000 in
theorem kX6_answer {cap : Nat} (l : Launch) (D : va_G) (ca : Nat → ClassId) (ad : Nat → Nat) (mem : Mm) (a0 : Nat) (h0 : isWk a0) {r : Int32} (h : fX6_answer mem a0 = some r) : CtI l yX6_answer cX6_answer 1 (some .int) (rmx 0 0) D ca ad (layC cap) mem [.ref (ad a0)] mem r := by
  refine CtI.of (by decide) (Nat.le_of_ble_eq_true rfl) ?_
  intro p e s m args below meth c H locs ls X M w hl
  replace X : CallFix p m c cX6_answer 1 s args TT RX6 := X
  replace hl : lv_has ls 1 [(0, .ref (ad a0))] := hl
  unfold fX6_answer at h
  refine lv_aload_n X.1 X.2.1 dX6_answer_0 rfl (lv_at hl 0 rfl) ?_
  refine r_get X w (lyWk h0) rfl inT6 0 rfl (by decide) rfl tw_185 dX6_answer_1 ?_
  refine lv_iconst (v := (3 : Int32)) X.1 X.2.1 dX6_answer_4 (by decide) ?_
  refine lv_icmp_ne (tgt := 18) X.1 X.2.1 dX6_answer_5 (by decide) (fun c1 => ?_) (fun c1 => ?_)
  · rw [if_neg c1] at h
    refine lv_aload_n X.1 X.2.1 dX6_answer_18 rfl (lv_at hl 0 rfl) ?_
    refine r_get X w (lyWk h0) rfl inT6 9 rfl (by decide) rfl tw_203 dX6_answer_19 ?_
    obtain rfl := Option.some.inj h
    exact r_iret X M w dX6_answer_22
  · rw [if_pos c1] at h
    refine lv_bipush (v := (-2 : Int32)) X.1 X.2.1 dX6_answer_8 (by decide) ?_
    refine lv_aload_n X.1 X.2.1 dX6_answer_10 rfl (lv_at hl 0 rfl) ?_
    refine r_get X w (lyWk h0) rfl inT6 9 rfl (by decide) rfl tw_203 dX6_answer_11 ?_
    refine lv_isub X.1 X.2.1 dX6_answer_14 ?_
    refine lv_goto (tgt := 22) X.1 X.2.1 dX6_answer_15 (by decide) ?_
    obtain rfl := Option.some.inj h
    exact r_iret X M w dX6_answer_22
/-! WalkHouse$Way.reset()V (W) -/
theorem hdX7_reset : yX7_reset.cls = RX7 ∧ yX7_reset.cls ≠ "java/lang/invoke/MethodHandle" ∧ yX7_reset.cls ≠ "java/lang/invoke/VarHandle" ∧ (parseMethodDescriptor yX7_reset.desc).map (fun d => d.parameters.length) = some 0 := by decide +kernel
def fX7_reset (mem : Mm)  : Option (Mm × Unit) :=
  bw (fJ7_fill_53178 mem 3 35 (-1 : Int32)) (fun m2 r1 => wk m2 34 2 (0 : Int32) (fun m3 => some (m3, ())))
set_option maxRecDepth 100000 in
set_option maxHeartbeats 4000000 in
theorem kX7_reset {cap : Nat} (l : Launch) (D : va_G) (ca : Nat → ClassId) (ad : Nat → Nat) (mem : Mm)   {mem' : Mm} {r : Unit} (h : fX7_reset mem  = some (mem', r)) : CtV l yX7_reset cX7_reset 1 none (rmx 1 23) D ca ad (layC cap) mem [.ref (ad 34)] mem' := by
  refine CtV.of (by decide) (Nat.le_of_ble_eq_true rfl) ?_
  intro p e s m args below meth c H locs ls X M w hl
  replace X : CallFix p m c cX7_reset 1 s args TT RX7 := X
  replace hl : lv_has ls 1 [(0, .ref (ad 34))] := hl
  unfold fX7_reset at h
  refine lv_aload_n X.1 X.2.1 dX7_reset_0 rfl (lv_at hl 0 rfl) ?_
  refine r_getr (b2 := 35) X w lyC_34 rfl inT7 0 rfl rfl (by decide) rfl tw_236 dX7_reset_1 ?_
  refine lv_iconst (v := (-1 : Int32)) X.1 X.2.1 dX7_reset_4 (by decide) ?_
  obtain ⟨m2, r1, hr1, h⟩ := bw_some h
  refine r_cSv (As := [.ref (ad 35), .int (-1 : Int32)]) (rest := []) X w (kJ7_fill_53178 (lay := layC cap) l D ca ad mem 3 35 (-1 : Int32) lyC_35 hr1) (gTS tw_664 tw_98 tw_67 tw_99) hdJ7_fill_53178 (by decide) rfl hl.1 rfl (Nat.le_of_ble_eq_true rfl) dX7_reset_5 ⟨Nat.zero_le _, Nat.zero_le _⟩ (fun H locs w => ?_)
  refine lv_aload_n X.1 X.2.1 dX7_reset_8 rfl (lv_at hl 0 rfl) ?_
  refine lv_iconst (v := (0 : Int32)) X.1 X.2.1 dX7_reset_9 (by decide) ?_
  refine r_put X w lyC_34 rfl inT7 tyX7 tyX7_ok nmX7 2 rfl (by decide) rfl rfl tw_240 rfl rfl dX7_reset_10 (fun H locs w => ?_)
  obtain ⟨m3, em3, h⟩ := wk_some h
  rw [em3] at w
  obtain ⟨rfl, -⟩ := Prod.mk.inj (Option.some.inj h)
  exact r_vret X M w dX7_reset_13
/-! WalkHouse$Way.end(III)V (W) -/
theorem hdX7_end : yX7_end.cls = RX7 ∧ yX7_end.cls ≠ "java/lang/invoke/MethodHandle" ∧ yX7_end.cls ≠ "java/lang/invoke/VarHandle" ∧ (parseMethodDescriptor yX7_end.desc).map (fun d => d.parameters.length) = some 3 := by decide +kernel
def fX7_end (mem : Mm) (a1 : Int32) (a2 : Int32) (a3 : Int32) : Option (Mm × Unit) :=
  wk mem 34 3 a1 (fun m1 => wk m1 34 4 a2 (fun m2 => wk m2 34 5 a3 (fun m3 => some (m3, ()))))
set_option maxRecDepth 100000 in
set_option maxHeartbeats 4000000 in
theorem kX7_end {cap : Nat} (l : Launch) (D : va_G) (ca : Nat → ClassId) (ad : Nat → Nat) (mem : Mm) (a1 : Int32) (a2 : Int32) (a3 : Int32)  {mem' : Mm} {r : Unit} (h : fX7_end mem a1 a2 a3 = some (mem', r)) : CtV l yX7_end cX7_end 4 none (rmx 0 0) D ca ad (layC cap) mem [.ref (ad 34), .int a1, .int a2, .int a3] mem' := by
  refine CtV.of (by decide) (Nat.le_of_ble_eq_true rfl) ?_
  intro p e s m args below meth c H locs ls X M w hl
  replace X : CallFix p m c cX7_end 4 s args TT RX7 := X
  replace hl : lv_has ls 4 [(0, .ref (ad 34)), (1, .int a1), (2, .int a2), (3, .int a3)] := hl
  unfold fX7_end at h
  refine lv_aload_n X.1 X.2.1 dX7_end_0 rfl (lv_at hl 0 rfl) ?_
  refine lv_iload_n X.1 X.2.1 dX7_end_1 rfl (lv_at hl 1 rfl) ?_
  refine r_put X w lyC_34 rfl inT7 tyX7 tyX7_ok nmX7 3 rfl (by decide) rfl rfl tw_242 rfl rfl dX7_end_2 (fun H locs w => ?_)
  obtain ⟨m1, em1, h⟩ := wk_some h
  rw [em1] at w
  refine lv_aload_n X.1 X.2.1 dX7_end_5 rfl (lv_at hl 0 rfl) ?_
  refine lv_iload_n X.1 X.2.1 dX7_end_6 rfl (lv_at hl 2 rfl) ?_
  refine r_put X w lyC_34 rfl inT7 tyX7 tyX7_ok nmX7 4 rfl (by decide) rfl rfl tw_244 rfl rfl dX7_end_7 (fun H locs w => ?_)
  obtain ⟨m2, em2, h⟩ := wk_some h
  rw [em2] at w
  refine lv_aload_n X.1 X.2.1 dX7_end_10 rfl (lv_at hl 0 rfl) ?_
  refine lv_iload_n X.1 X.2.1 dX7_end_11 rfl (lv_at hl 3 rfl) ?_
  refine r_put X w lyC_34 rfl inT7 tyX7 tyX7_ok nmX7 5 rfl (by decide) rfl rfl tw_246 rfl rfl dX7_end_12 (fun H locs w => ?_)
  obtain ⟨m3, em3, h⟩ := wk_some h
  rw [em3] at w
  obtain ⟨rfl, -⟩ := Prod.mk.inj (Option.some.inj h)
  exact r_vret X M w dX7_end_15
/-! WalkHouse$Way.frameAt(I)I (R) -/
theorem hdX7_frameAt : yX7_frameAt.cls = RX7 ∧ yX7_frameAt.cls ≠ "java/lang/invoke/MethodHandle" ∧ yX7_frameAt.cls ≠ "java/lang/invoke/VarHandle" ∧ (parseMethodDescriptor yX7_frameAt.desc).map (fun d => d.parameters.length) = some 1 := by decide +kernel
def fX7_frameAt (mem : Mm) (a1 : Int32) : Option Int32 :=
  some ((mem 34 4) + (fX8_restOf a1 (mem 34 3)))
set_option maxRecDepth 100000 in
set_option maxHeartbeats 4000000 in
theorem kX7_frameAt {cap : Nat} (l : Launch) (D : va_G) (ca : Nat → ClassId) (ad : Nat → Nat) (mem : Mm) (a1 : Int32)  {r : Int32} (h : fX7_frameAt mem a1 = some r) : CtI l yX7_frameAt cX7_frameAt 2 (some .int) (rmx 2 41) D ca ad (layC cap) mem [.ref (ad 34), .int a1] mem r := by
  refine CtI.of (by decide) (Nat.le_of_ble_eq_true rfl) ?_
  intro p e s m args below meth c H locs ls X M w hl
  replace X : CallFix p m c cX7_frameAt 2 s args TT RX7 := X
  replace hl : lv_has ls 2 [(0, .ref (ad 34)), (1, .int a1)] := hl
  unfold fX7_frameAt at h
  refine lv_aload_n X.1 X.2.1 dX7_frameAt_0 rfl (lv_at hl 0 rfl) ?_
  refine r_get X w lyC_34 rfl inT7 4 rfl (by decide) rfl tw_244 dX7_frameAt_1 ?_
  refine lv_iload_n X.1 X.2.1 dX7_frameAt_4 rfl (lv_at hl 1 rfl) ?_
  refine lv_aload_n X.1 X.2.1 dX7_frameAt_5 rfl (lv_at hl 0 rfl) ?_
  refine r_get X w lyC_34 rfl inT7 3 rfl (by decide) rfl tw_242 dX7_frameAt_6 ?_
  refine r_cNi (As := [.int a1, .int (mem 34 3)]) (rest := [.int (mem 34 4)]) X w (kX8_restOf (cap := cap) l D ca ad mem a1 (mem 34 3)  rfl) ⟨tw_466, tw_465, tw_65⟩ w.2.2.2.2.2.2 hdX8_restOf (by decide) rfl hl.1 rfl (Nat.le_of_ble_eq_true rfl) dX7_frameAt_9 ⟨Nat.zero_le _, Nat.zero_le _⟩ (fun H locs w => ?_)
  refine lv_iadd X.1 X.2.1 dX7_frameAt_12 ?_
  obtain rfl := Option.some.inj h
  exact r_iret X M w dX7_frameAt_13
/-! WalkHouse$Way.comesBy(I)Z (R) -/
theorem hdX7_comesBy : yX7_comesBy.cls = RX7 ∧ yX7_comesBy.cls ≠ "java/lang/invoke/MethodHandle" ∧ yX7_comesBy.cls ≠ "java/lang/invoke/VarHandle" ∧ (parseMethodDescriptor yX7_comesBy.desc).map (fun d => d.parameters.length) = some 1 := by decide +kernel
def fX7_comesBy (mem : Mm) (a1 : Int32) : Option Int32 :=
  gd (2 : Int32) 3 (if (mem 35 (2 : Int32).toNatClampNeg) = a1 then some (1 : Int32) else gd (1 : Int32) 3 (if (mem 35 (1 : Int32).toNatClampNeg) = a1 then some (1 : Int32) else gd (0 : Int32) 3 (if (mem 35 (0 : Int32).toNatClampNeg) = a1 then some (1 : Int32) else some (0 : Int32))))
set_option maxRecDepth 100000 in
set_option maxHeartbeats 4000000 in
theorem kX7_comesBy {cap : Nat} (l : Launch) (D : va_G) (ca : Nat → ClassId) (ad : Nat → Nat) (mem : Mm) (a1 : Int32)  {r : Int32} (h : fX7_comesBy mem a1 = some r) : CtI l yX7_comesBy cX7_comesBy 2 (some .boolean) (rmx 0 0) D ca ad (layC cap) mem [.ref (ad 34), .int a1] mem r := by
  refine CtI.of (by decide) (Nat.le_of_ble_eq_true rfl) ?_
  intro p e s m args below meth c H locs ls X M w hl
  replace X : CallFix p m c cX7_comesBy 2 s args TT RX7 := X
  replace hl : lv_has ls 2 [(0, .ref (ad 34)), (1, .int a1)] := hl
  unfold fX7_comesBy at h
  refine lv_aload_n X.1 X.2.1 dX7_comesBy_0 rfl (lv_at hl 0 rfl) ?_
  refine r_getr (b2 := 35) X w lyC_34 rfl inT7 0 rfl rfl (by decide) rfl tw_236 dX7_comesBy_1 ?_
  refine lv_iconst (v := (2 : Int32)) X.1 X.2.1 dX7_comesBy_4 (by decide) ?_
  obtain ⟨hi1, h⟩ := gd_some h
  refine r_iald X w lyC_35 hi1 dX7_comesBy_5 ?_
  refine lv_iload_n X.1 X.2.1 dX7_comesBy_6 rfl (lv_at hl 1 rfl) ?_
  refine lv_icmp_eq (tgt := 30) X.1 X.2.1 dX7_comesBy_7 (by decide) (fun c2 => ?_) (fun c2 => ?_)
  · rw [if_pos c2] at h
    refine lv_iconst (v := (1 : Int32)) X.1 X.2.1 dX7_comesBy_30 (by decide) ?_
    refine lv_goto (tgt := 35) X.1 X.2.1 dX7_comesBy_31 (by decide) ?_
    obtain rfl := Option.some.inj h
    exact r_zret X M w (by decide) dX7_comesBy_35
  · rw [if_neg c2] at h
    refine lv_aload_n X.1 X.2.1 dX7_comesBy_10 rfl (lv_at hl 0 rfl) ?_
    refine r_getr (b2 := 35) X w lyC_34 rfl inT7 0 rfl rfl (by decide) rfl tw_236 dX7_comesBy_11 ?_
    refine lv_iconst (v := (1 : Int32)) X.1 X.2.1 dX7_comesBy_14 (by decide) ?_
    obtain ⟨hi3, h⟩ := gd_some h
    refine r_iald X w lyC_35 hi3 dX7_comesBy_15 ?_
    refine lv_iload_n X.1 X.2.1 dX7_comesBy_16 rfl (lv_at hl 1 rfl) ?_
    refine lv_icmp_eq (tgt := 30) X.1 X.2.1 dX7_comesBy_17 (by decide) (fun c4 => ?_) (fun c4 => ?_)
    · rw [if_pos c4] at h
      refine lv_iconst (v := (1 : Int32)) X.1 X.2.1 dX7_comesBy_30 (by decide) ?_
      refine lv_goto (tgt := 35) X.1 X.2.1 dX7_comesBy_31 (by decide) ?_
      obtain rfl := Option.some.inj h
      exact r_zret X M w (by decide) dX7_comesBy_35
    · rw [if_neg c4] at h
      refine lv_aload_n X.1 X.2.1 dX7_comesBy_20 rfl (lv_at hl 0 rfl) ?_
      refine r_getr (b2 := 35) X w lyC_34 rfl inT7 0 rfl rfl (by decide) rfl tw_236 dX7_comesBy_21 ?_
      refine lv_iconst (v := (0 : Int32)) X.1 X.2.1 dX7_comesBy_24 (by decide) ?_
      obtain ⟨hi5, h⟩ := gd_some h
      refine r_iald X w lyC_35 hi5 dX7_comesBy_25 ?_
      refine lv_iload_n X.1 X.2.1 dX7_comesBy_26 rfl (lv_at hl 1 rfl) ?_
      refine lv_icmp_ne (tgt := 34) X.1 X.2.1 dX7_comesBy_27 (by decide) (fun c6 => ?_) (fun c6 => ?_)
      · rw [if_neg c6] at h
        refine lv_iconst (v := (0 : Int32)) X.1 X.2.1 dX7_comesBy_34 (by decide) ?_
        obtain rfl := Option.some.inj h
        exact r_zret X M w (by decide) dX7_comesBy_35
      · rw [if_pos c6] at h
        refine lv_iconst (v := (1 : Int32)) X.1 X.2.1 dX7_comesBy_30 (by decide) ?_
        refine lv_goto (tgt := 35) X.1 X.2.1 dX7_comesBy_31 (by decide) ?_
        obtain rfl := Option.some.inj h
        exact r_zret X M w (by decide) dX7_comesBy_35
/-! WalkHouse.isCell(II)Z (T) -/
theorem hdX8_isCell : yX8_isCell.cls ≠ "java/lang/invoke/MethodHandle" ∧ yX8_isCell.cls ≠ "java/lang/invoke/VarHandle" ∧ (parseMethodDescriptor yX8_isCell.desc).map (fun d => d.parameters.length) = some 2 := by decide +kernel
def fX8_isCell (a0 : Int32) (a1 : Int32) : Int32 :=
  if a0 < 0 then (0 : Int32) else if (12 : Int32) ≤ a0 then (0 : Int32) else if a1 < 0 then (0 : Int32) else if (8 : Int32) ≤ a1 then (0 : Int32) else (1 : Int32)
set_option maxRecDepth 100000 in
set_option maxHeartbeats 4000000 in
theorem kX8_isCell {cap : Nat} (l : Launch) (D : va_G) (ca : Nat → ClassId) (ad : Nat → Nat) (mem : Mm) (a0 : Int32) (a1 : Int32)  {r : Int32} (h : fX8_isCell a0 a1 = r) : CtI l yX8_isCell cX8_isCell 2 (some .boolean) (rmx 0 0) D ca ad (layC cap) mem [.int a0, .int a1] mem r := by
  refine CtI.of (by decide) (Nat.le_of_ble_eq_true rfl) ?_
  intro p e s m args below meth c H locs ls X M w hl
  replace X : CallFix p m c cX8_isCell 2 s args TT RX8 := X
  replace hl : lv_has ls 2 [(0, .int a0), (1, .int a1)] := hl
  unfold fX8_isCell at h
  refine lv_iload_n X.1 X.2.1 dX8_isCell_0 rfl (lv_at hl 0 rfl) ?_
  refine lv_if_lt (tgt := 24) X.1 X.2.1 dX8_isCell_1 (by decide) (fun c1 => ?_) (fun c1 => ?_)
  · rw [if_pos c1] at h
    refine lv_iconst (v := (0 : Int32)) X.1 X.2.1 dX8_isCell_24 (by decide) ?_
    subst h
    exact r_zret X M w (by decide) dX8_isCell_25
  · rw [if_neg c1] at h
    refine lv_iload_n X.1 X.2.1 dX8_isCell_4 rfl (lv_at hl 0 rfl) ?_
    refine lv_bipush (v := (12 : Int32)) X.1 X.2.1 dX8_isCell_5 (by decide) ?_
    refine lv_icmp_ge (tgt := 24) X.1 X.2.1 dX8_isCell_7 (by decide) (fun c2 => ?_) (fun c2 => ?_)
    · rw [if_pos c2] at h
      refine lv_iconst (v := (0 : Int32)) X.1 X.2.1 dX8_isCell_24 (by decide) ?_
      subst h
      exact r_zret X M w (by decide) dX8_isCell_25
    · rw [if_neg c2] at h
      refine lv_iload_n X.1 X.2.1 dX8_isCell_10 rfl (lv_at hl 1 rfl) ?_
      refine lv_if_lt (tgt := 24) X.1 X.2.1 dX8_isCell_11 (by decide) (fun c3 => ?_) (fun c3 => ?_)
      · rw [if_pos c3] at h
        refine lv_iconst (v := (0 : Int32)) X.1 X.2.1 dX8_isCell_24 (by decide) ?_
        subst h
        exact r_zret X M w (by decide) dX8_isCell_25
      · rw [if_neg c3] at h
        refine lv_iload_n X.1 X.2.1 dX8_isCell_14 rfl (lv_at hl 1 rfl) ?_
        refine lv_bipush (v := (8 : Int32)) X.1 X.2.1 dX8_isCell_15 (by decide) ?_
        refine lv_icmp_ge (tgt := 24) X.1 X.2.1 dX8_isCell_17 (by decide) (fun c4 => ?_) (fun c4 => ?_)
        · rw [if_pos c4] at h
          refine lv_iconst (v := (0 : Int32)) X.1 X.2.1 dX8_isCell_24 (by decide) ?_
          subst h
          exact r_zret X M w (by decide) dX8_isCell_25
        · rw [if_neg c4] at h
          refine lv_iconst (v := (1 : Int32)) X.1 X.2.1 dX8_isCell_20 (by decide) ?_
          refine lv_goto (tgt := 25) X.1 X.2.1 dX8_isCell_21 (by decide) ?_
          subst h
          exact r_zret X M w (by decide) dX8_isCell_25
theorem zX8_isCell (a0 : Int32) (a1 : Int32) : fX8_isCell a0 a1 &&& 1 = fX8_isCell a0 a1 := by
  unfold fX8_isCell; (repeat' split) <;> (repeat' split) <;> first | decide
/-! WalkHouse.isEntry(III)Z (T) -/
theorem hdX8_isEntry : yX8_isEntry.cls ≠ "java/lang/invoke/MethodHandle" ∧ yX8_isEntry.cls ≠ "java/lang/invoke/VarHandle" ∧ (parseMethodDescriptor yX8_isEntry.desc).map (fun d => d.parameters.length) = some 3 := by decide +kernel
def fX8_isEntry_b33  (x0 : Int32) (x1 : Int32) : Int32 :=
  if x0 = (2 : Int32) then if (1000 : Int32) ≤ x1 then (0 : Int32) else (1 : Int32) else (0 : Int32)
set_option maxRecDepth 100000 in
set_option maxHeartbeats 4000000 in
theorem wX8_isEntry_b33 {p : Program} {l : Launch} {e : Env} {s : State} {m : MethodId} {args : Array Value} {below : List Frame} {meth : Method} {c : Code} {D : va_G} {ca : Nat → ClassId} {ad : Nat → Nat} {cap : Nat} {H : Heap} {locs : List Loc} {ls : Array Slot} {mem : Mm} {x0 : Int32} {x1 : Int32}  {r : Int32} (X : CallFix p m c cX8_isEntry 3 s args TT RX8) (M : Mt meth (some .boolean))   (w : Wd D ca ad (layC cap) (AA ad (layC cap).length) s.heap s mem H locs) (hl : lv_has ls 3 [(0, .int x0), (1, .int x1)]) (h : fX8_isEntry_b33   x0 x1 = r) : W p l e (rmx 0 0) s m args below meth c H locs 0 0 (EndI D ca ad (layC cap) mem r below args s) (F0 m 33 ls []) := by
  unfold fX8_isEntry_b33 at h
  refine lv_iload_n X.1 X.2.1 dX8_isEntry_33 rfl (lv_at hl 0 rfl) ?_
  refine lv_iconst (v := (2 : Int32)) X.1 X.2.1 dX8_isEntry_34 (by decide) ?_
  refine lv_icmp_ne (tgt := 49) X.1 X.2.1 dX8_isEntry_35 (by decide) (fun c1 => ?_) (fun c1 => ?_)
  · rw [if_neg c1] at h
    refine lv_iconst (v := (0 : Int32)) X.1 X.2.1 dX8_isEntry_49 (by decide) ?_
    subst h
    exact r_zret X M w (by decide) dX8_isEntry_50
  · rw [if_pos c1] at h
    refine lv_iload_n X.1 X.2.1 dX8_isEntry_38 rfl (lv_at hl 1 rfl) ?_
    refine lv_sipush (v := (1000 : Int32)) X.1 X.2.1 dX8_isEntry_39 (by decide) ?_
    refine lv_icmp_ge (tgt := 49) X.1 X.2.1 dX8_isEntry_42 (by decide) (fun c2 => ?_) (fun c2 => ?_)
    · rw [if_pos c2] at h
      refine lv_iconst (v := (0 : Int32)) X.1 X.2.1 dX8_isEntry_49 (by decide) ?_
      subst h
      exact r_zret X M w (by decide) dX8_isEntry_50
    · rw [if_neg c2] at h
      refine lv_iconst (v := (1 : Int32)) X.1 X.2.1 dX8_isEntry_45 (by decide) ?_
      refine lv_goto (tgt := 50) X.1 X.2.1 dX8_isEntry_46 (by decide) ?_
      subst h
      exact r_zret X M w (by decide) dX8_isEntry_50
def fX8_isEntry (a0 : Int32) (a1 : Int32) (a2 : Int32) : Int32 :=
  if a0 = 0 then (1 : Int32) else if a2 < 0 then (0 : Int32) else if (15 : Int32) < a2 then (0 : Int32) else if 0 ≤ a1 then if a0 = (1 : Int32) then if a1 < (12 : Int32) then (1 : Int32) else fX8_isEntry_b33 a0 a1 else fX8_isEntry_b33 a0 a1 else (0 : Int32)
set_option maxRecDepth 100000 in
set_option maxHeartbeats 4000000 in
theorem kX8_isEntry {cap : Nat} (l : Launch) (D : va_G) (ca : Nat → ClassId) (ad : Nat → Nat) (mem : Mm) (a0 : Int32) (a1 : Int32) (a2 : Int32)  {r : Int32} (h : fX8_isEntry a0 a1 a2 = r) : CtI l yX8_isEntry cX8_isEntry 3 (some .boolean) (rmx 0 0) D ca ad (layC cap) mem [.int a0, .int a1, .int a2] mem r := by
  refine CtI.of (by decide) (Nat.le_of_ble_eq_true rfl) ?_
  intro p e s m args below meth c H locs ls X M w hl
  replace X : CallFix p m c cX8_isEntry 3 s args TT RX8 := X
  replace hl : lv_has ls 3 [(0, .int a0), (1, .int a1), (2, .int a2)] := hl
  unfold fX8_isEntry at h
  refine lv_iload_n X.1 X.2.1 dX8_isEntry_0 rfl (lv_at hl 0 rfl) ?_
  refine lv_if_ne (tgt := 6) X.1 X.2.1 dX8_isEntry_1 (by decide) (fun c1 => ?_) (fun c1 => ?_)
  · rw [if_neg c1] at h
    refine lv_iload_n X.1 X.2.1 dX8_isEntry_6 rfl (lv_at hl 2 rfl) ?_
    refine lv_if_lt (tgt := 20) X.1 X.2.1 dX8_isEntry_7 (by decide) (fun c2 => ?_) (fun c2 => ?_)
    · rw [if_pos c2] at h
      refine lv_iconst (v := (0 : Int32)) X.1 X.2.1 dX8_isEntry_20 (by decide) ?_
      subst h
      exact r_zret X M w (by decide) dX8_isEntry_21
    · rw [if_neg c2] at h
      refine lv_iload_n X.1 X.2.1 dX8_isEntry_10 rfl (lv_at hl 2 rfl) ?_
      refine lv_bipush (v := (15 : Int32)) X.1 X.2.1 dX8_isEntry_11 (by decide) ?_
      refine lv_icmp_gt (tgt := 20) X.1 X.2.1 dX8_isEntry_13 (by decide) (fun c3 => ?_) (fun c3 => ?_)
      · rw [if_pos c3] at h
        refine lv_iconst (v := (0 : Int32)) X.1 X.2.1 dX8_isEntry_20 (by decide) ?_
        subst h
        exact r_zret X M w (by decide) dX8_isEntry_21
      · rw [if_neg c3] at h
        refine lv_iload_n X.1 X.2.1 dX8_isEntry_16 rfl (lv_at hl 1 rfl) ?_
        refine lv_if_ge (tgt := 22) X.1 X.2.1 dX8_isEntry_17 (by decide) (fun c4 => ?_) (fun c4 => ?_)
        · rw [if_pos c4] at h
          refine lv_iload_n X.1 X.2.1 dX8_isEntry_22 rfl (lv_at hl 0 rfl) ?_
          refine lv_iconst (v := (1 : Int32)) X.1 X.2.1 dX8_isEntry_23 (by decide) ?_
          refine lv_icmp_ne (tgt := 33) X.1 X.2.1 dX8_isEntry_24 (by decide) (fun c5 => ?_) (fun c5 => ?_)
          · rw [if_neg c5] at h
            exact wX8_isEntry_b33 X M w (lv_sub hl [0, 1] rfl) h
          · rw [if_pos c5] at h
            refine lv_iload_n X.1 X.2.1 dX8_isEntry_27 rfl (lv_at hl 1 rfl) ?_
            refine lv_bipush (v := (12 : Int32)) X.1 X.2.1 dX8_isEntry_28 (by decide) ?_
            refine lv_icmp_lt (tgt := 45) X.1 X.2.1 dX8_isEntry_30 (by decide) (fun c6 => ?_) (fun c6 => ?_)
            · rw [if_pos c6] at h
              refine lv_iconst (v := (1 : Int32)) X.1 X.2.1 dX8_isEntry_45 (by decide) ?_
              refine lv_goto (tgt := 50) X.1 X.2.1 dX8_isEntry_46 (by decide) ?_
              subst h
              exact r_zret X M w (by decide) dX8_isEntry_50
            · rw [if_neg c6] at h
              exact wX8_isEntry_b33 X M w (lv_sub hl [0, 1] rfl) h
        · rw [if_neg c4] at h
          refine lv_iconst (v := (0 : Int32)) X.1 X.2.1 dX8_isEntry_20 (by decide) ?_
          subst h
          exact r_zret X M w (by decide) dX8_isEntry_21
  · rw [if_pos c1] at h
    refine lv_iconst (v := (1 : Int32)) X.1 X.2.1 dX8_isEntry_4 (by decide) ?_
    subst h
    exact r_zret X M w (by decide) dX8_isEntry_5
theorem zX8_isEntry (a0 : Int32) (a1 : Int32) (a2 : Int32) : fX8_isEntry a0 a1 a2 &&& 1 = fX8_isEntry a0 a1 a2 := by
  unfold fX8_isEntry; (repeat' split) <;> (try unfold fX8_isEntry_b33) <;> (repeat' split) <;> first | decide
/-! WalkHouse.cellOf(II)I (T) -/
theorem hdX8_cellOf : yX8_cellOf.cls ≠ "java/lang/invoke/MethodHandle" ∧ yX8_cellOf.cls ≠ "java/lang/invoke/VarHandle" ∧ (parseMethodDescriptor yX8_cellOf.desc).map (fun d => d.parameters.length) = some 2 := by decide +kernel
def fX8_cellOf (a0 : Int32) (a1 : Int32) : Int32 :=
  ((a0 * (8 : Int32)) + a1)
set_option maxRecDepth 100000 in
set_option maxHeartbeats 4000000 in
theorem kX8_cellOf {cap : Nat} (l : Launch) (D : va_G) (ca : Nat → ClassId) (ad : Nat → Nat) (mem : Mm) (a0 : Int32) (a1 : Int32)  {r : Int32} (h : fX8_cellOf a0 a1 = r) : CtI l yX8_cellOf cX8_cellOf 2 (some .int) (rmx 0 0) D ca ad (layC cap) mem [.int a0, .int a1] mem r := by
  refine CtI.of (by decide) (Nat.le_of_ble_eq_true rfl) ?_
  intro p e s m args below meth c H locs ls X M w hl
  replace X : CallFix p m c cX8_cellOf 2 s args TT RX8 := X
  replace hl : lv_has ls 2 [(0, .int a0), (1, .int a1)] := hl
  unfold fX8_cellOf at h
  refine lv_iload_n X.1 X.2.1 dX8_cellOf_0 rfl (lv_at hl 0 rfl) ?_
  refine lv_bipush (v := (8 : Int32)) X.1 X.2.1 dX8_cellOf_1 (by decide) ?_
  refine lv_imul X.1 X.2.1 dX8_cellOf_3 ?_
  refine lv_iload_n X.1 X.2.1 dX8_cellOf_4 rfl (lv_at hl 1 rfl) ?_
  refine lv_iadd X.1 X.2.1 dX8_cellOf_5 ?_
  subst h
  exact r_iret X M w dX8_cellOf_6
/-! WalkHouse.codeOf(III)I (T) -/
theorem hdX8_codeOf : yX8_codeOf.cls ≠ "java/lang/invoke/MethodHandle" ∧ yX8_codeOf.cls ≠ "java/lang/invoke/VarHandle" ∧ (parseMethodDescriptor yX8_codeOf.desc).map (fun d => d.parameters.length) = some 3 := by decide +kernel
def fX8_codeOf (a0 : Int32) (a1 : Int32) (a2 : Int32) : Int32 :=
  ((a0 ||| (a2 <<< ((2 : Int32) &&& 31))) ||| (a1 <<< ((6 : Int32) &&& 31)))
set_option maxRecDepth 100000 in
set_option maxHeartbeats 4000000 in
theorem kX8_codeOf {cap : Nat} (l : Launch) (D : va_G) (ca : Nat → ClassId) (ad : Nat → Nat) (mem : Mm) (a0 : Int32) (a1 : Int32) (a2 : Int32)  {r : Int32} (h : fX8_codeOf a0 a1 a2 = r) : CtI l yX8_codeOf cX8_codeOf 3 (some .int) (rmx 0 0) D ca ad (layC cap) mem [.int a0, .int a1, .int a2] mem r := by
  refine CtI.of (by decide) (Nat.le_of_ble_eq_true rfl) ?_
  intro p e s m args below meth c H locs ls X M w hl
  replace X : CallFix p m c cX8_codeOf 3 s args TT RX8 := X
  replace hl : lv_has ls 3 [(0, .int a0), (1, .int a1), (2, .int a2)] := hl
  unfold fX8_codeOf at h
  refine lv_iload_n X.1 X.2.1 dX8_codeOf_0 rfl (lv_at hl 0 rfl) ?_
  refine lv_iload_n X.1 X.2.1 dX8_codeOf_1 rfl (lv_at hl 2 rfl) ?_
  refine lv_iconst (v := (2 : Int32)) X.1 X.2.1 dX8_codeOf_2 (by decide) ?_
  refine lv_ishl X.1 X.2.1 dX8_codeOf_3 ?_
  refine lv_ior X.1 X.2.1 dX8_codeOf_4 ?_
  refine lv_iload_n X.1 X.2.1 dX8_codeOf_5 rfl (lv_at hl 1 rfl) ?_
  refine lv_bipush (v := (6 : Int32)) X.1 X.2.1 dX8_codeOf_6 (by decide) ?_
  refine lv_ishl X.1 X.2.1 dX8_codeOf_8 ?_
  refine lv_ior X.1 X.2.1 dX8_codeOf_9 ?_
  subst h
  exact r_iret X M w dX8_codeOf_10
/-! WalkHouse.kindOf(I)I (T) -/
theorem hdX8_kindOf : yX8_kindOf.cls ≠ "java/lang/invoke/MethodHandle" ∧ yX8_kindOf.cls ≠ "java/lang/invoke/VarHandle" ∧ (parseMethodDescriptor yX8_kindOf.desc).map (fun d => d.parameters.length) = some 1 := by decide +kernel
def fX8_kindOf (a0 : Int32) : Int32 :=
  (a0 &&& (3 : Int32))
set_option maxRecDepth 100000 in
set_option maxHeartbeats 4000000 in
theorem kX8_kindOf {cap : Nat} (l : Launch) (D : va_G) (ca : Nat → ClassId) (ad : Nat → Nat) (mem : Mm) (a0 : Int32)  {r : Int32} (h : fX8_kindOf a0 = r) : CtI l yX8_kindOf cX8_kindOf 1 (some .int) (rmx 0 0) D ca ad (layC cap) mem [.int a0] mem r := by
  refine CtI.of (by decide) (Nat.le_of_ble_eq_true rfl) ?_
  intro p e s m args below meth c H locs ls X M w hl
  replace X : CallFix p m c cX8_kindOf 1 s args TT RX8 := X
  replace hl : lv_has ls 1 [(0, .int a0)] := hl
  unfold fX8_kindOf at h
  refine lv_iload_n X.1 X.2.1 dX8_kindOf_0 rfl (lv_at hl 0 rfl) ?_
  refine lv_iconst (v := (3 : Int32)) X.1 X.2.1 dX8_kindOf_1 (by decide) ?_
  refine lv_iand X.1 X.2.1 dX8_kindOf_2 ?_
  subst h
  exact r_iret X M w dX8_kindOf_3
/-! WalkHouse.entry(IIIII)I (W) -/
theorem hdX8_entry : yX8_entry.cls = RX8 ∧ yX8_entry.cls ≠ "java/lang/invoke/MethodHandle" ∧ yX8_entry.cls ≠ "java/lang/invoke/VarHandle" ∧ (parseMethodDescriptor yX8_entry.desc).map (fun d => d.parameters.length) = some 5 := by decide +kernel
def fX8_entry_b53  (mem : Mm) (x6 : Int32) (x7 : Int32) (s0 : Int32) : Option (Mm × Int32) :=
  if x7 = s0 then some (mem, (fX8_kindOf x7)) else bw (fX0_note mem x6 x7) (fun m3 r2 => gd x6 96 (wk m3 1 x6.toNatClampNeg s0 (fun m5 => gd x6 96 (wk m5 2 x6.toNatClampNeg (0 : Int32) (fun m7 => some (m7, (fX8_kindOf x7)))))))
set_option maxRecDepth 100000 in
set_option maxHeartbeats 4000000 in
theorem wX8_entry_b53 {p : Program} {l : Launch} {e : Env} {s : State} {m : MethodId} {args : Array Value} {below : List Frame} {meth : Method} {c : Code} {D : va_G} {ca : Nat → ClassId} {ad : Nat → Nat} {cap : Nat} {H : Heap} {locs : List Loc} {ls : Array Slot} {mem : Mm} {x6 : Int32} {x7 : Int32} {s0 : Int32}  {mem' : Mm} {r : Int32} (X : CallFix p m c cX8_entry 9 s args TT RX8) (M : Mt meth (some .int))   (w : Wd D ca ad (layC cap) (AA ad (layC cap).length) s.heap s mem H locs) (hl : lv_has ls 9 [(0, .ref (ad 0)), (6, .int x6), (7, .int x7)]) (h : fX8_entry_b53  mem x6 x7 s0 = some (mem', r)) : W p l e (rmx 1 22) s m args below meth c H locs 0 0 (EndI D ca ad (layC cap) mem' r below args s) (F0 m 53 ls [.int s0]) := by
  unfold fX8_entry_b53 at h
  refine lv_istore (lv' := [(8, .int s0), (0, .ref (ad 0)), (6, .int x6), (7, .int x7)]) X.1 X.2.1 dX8_entry_53 hl (by decide) rfl (fun ls hl => ?_)
  refine lv_iload X.1 X.2.1 dX8_entry_55 (lv_at hl 3 rfl) ?_
  refine lv_iload X.1 X.2.1 dX8_entry_57 (lv_at hl 0 rfl) ?_
  refine lv_icmp_eq (tgt := 90) X.1 X.2.1 dX8_entry_59 (by decide) (fun c1 => ?_) (fun c1 => ?_)
  · rw [if_pos c1] at h
    refine lv_iload X.1 X.2.1 dX8_entry_90 (lv_at hl 3 rfl) ?_
    refine r_cSi (As := [.int x7]) (rest := []) X w (kX8_kindOf (cap := cap) l D ca ad mem x7  rfl) (gTS tw_381 tw_382 tw_65 tw_383) hdX8_kindOf (by decide) rfl hl.1 rfl (Nat.le_of_ble_eq_true rfl) dX8_entry_92 ⟨Nat.zero_le _, Nat.zero_le _⟩ (fun H locs w => ?_)
    obtain ⟨rfl, rfl⟩ := Prod.mk.inj (Option.some.inj h)
    exact r_iret X M w dX8_entry_95
  · rw [if_neg c1] at h
    refine lv_aload_n X.1 X.2.1 dX8_entry_62 rfl (lv_at hl 1 rfl) ?_
    refine r_getr (b2 := 37) X w lyC_0 rfl inT8 8 rfl rfl (by decide) rfl tw_320 dX8_entry_63 ?_
    refine lv_iload X.1 X.2.1 dX8_entry_66 (lv_at hl 2 rfl) ?_
    refine lv_iload X.1 X.2.1 dX8_entry_68 (lv_at hl 3 rfl) ?_
    obtain ⟨m3, r2, hr2, h⟩ := bw_some h
    refine r_cVv (As := [.int x6, .int x7]) (rest := []) X w lyC_37 rfl (kX0_note (cap := cap) l D ca ad mem x6 x7  hr2) (gTV tw_377 tw_378 tw_379 tw_72 tw_380) hdX0_note (by decide) rfl hl.1 rfl (Nat.le_of_ble_eq_true rfl) dX8_entry_70 ⟨Nat.zero_le _, Nat.zero_le _⟩ (fun H locs w => ?_)
    refine lv_aload_n X.1 X.2.1 dX8_entry_73 rfl (lv_at hl 1 rfl) ?_
    refine r_getr (b2 := 1) X w lyC_0 rfl inT8 0 rfl rfl (by decide) rfl tw_312 dX8_entry_74 ?_
    refine lv_iload X.1 X.2.1 dX8_entry_77 (lv_at hl 2 rfl) ?_
    refine lv_iload X.1 X.2.1 dX8_entry_79 (lv_at hl 0 rfl) ?_
    obtain ⟨hi4, h⟩ := gd_some h
    refine r_iast X w lyC_1 hi4 dX8_entry_81 (fun H locs w => ?_)
    obtain ⟨m5, em5, h⟩ := wk_some h
    rw [em5] at w
    refine lv_aload_n X.1 X.2.1 dX8_entry_82 rfl (lv_at hl 1 rfl) ?_
    refine r_getr (b2 := 2) X w lyC_0 rfl inT8 1 rfl rfl (by decide) rfl tw_313 dX8_entry_83 ?_
    refine lv_iload X.1 X.2.1 dX8_entry_86 (lv_at hl 2 rfl) ?_
    refine lv_iconst (v := (0 : Int32)) X.1 X.2.1 dX8_entry_88 (by decide) ?_
    obtain ⟨hi6, h⟩ := gd_some h
    refine r_iast X w lyC_2 hi6 dX8_entry_89 (fun H locs w => ?_)
    obtain ⟨m7, em7, h⟩ := wk_some h
    rw [em7] at w
    refine lv_iload X.1 X.2.1 dX8_entry_90 (lv_at hl 3 rfl) ?_
    refine r_cSi (As := [.int x7]) (rest := []) X w (kX8_kindOf (cap := cap) l D ca ad m7 x7  rfl) (gTS tw_381 tw_382 tw_65 tw_383) hdX8_kindOf (by decide) rfl hl.1 rfl (Nat.le_of_ble_eq_true rfl) dX8_entry_92 ⟨Nat.zero_le _, Nat.zero_le _⟩ (fun H locs w => ?_)
    obtain ⟨rfl, rfl⟩ := Prod.mk.inj (Option.some.inj h)
    exact r_iret X M w dX8_entry_95
def fX8_entry (mem : Mm) (a1 : Int32) (a2 : Int32) (a3 : Int32) (a4 : Int32) (a5 : Int32) : Option (Mm × Int32) :=
  if (fX8_isCell a1 a2) = 0 then some (mem, (-1 : Int32)) else if (fX8_isEntry a3 a4 a5) = 0 then some (mem, (-1 : Int32)) else lk (fX8_cellOf a1 a2) (fun x_3 => gd x_3 96 (lk (mem 1 x_3.toNatClampNeg) (fun x_5 => if a3 = 0 then fX8_entry_b53 mem x_3 x_5 (0 : Int32) else fX8_entry_b53 mem x_3 x_5 (fX8_codeOf a3 a4 a5))))
set_option maxRecDepth 100000 in
set_option maxHeartbeats 4000000 in
theorem kX8_entry {cap : Nat} (l : Launch) (D : va_G) (ca : Nat → ClassId) (ad : Nat → Nat) (mem : Mm) (a1 : Int32) (a2 : Int32) (a3 : Int32) (a4 : Int32) (a5 : Int32)  {mem' : Mm} {r : Int32} (h : fX8_entry mem a1 a2 a3 a4 a5 = some (mem', r)) : CtI l yX8_entry cX8_entry 9 (some .int) (rmx 1 22) D ca ad (layC cap) mem [.ref (ad 0), .int a1, .int a2, .int a3, .int a4, .int a5] mem' r := by
  refine CtI.of (by decide) (Nat.le_of_ble_eq_true rfl) ?_
  intro p e s m args below meth c H locs ls X M w hl
  replace X : CallFix p m c cX8_entry 9 s args TT RX8 := X
  replace hl : lv_has ls 9 [(0, .ref (ad 0)), (1, .int a1), (2, .int a2), (3, .int a3), (4, .int a4), (5, .int a5)] := hl
  unfold fX8_entry at h
  refine lv_iload_n X.1 X.2.1 dX8_entry_0 rfl (lv_at hl 1 rfl) ?_
  refine lv_iload_n X.1 X.2.1 dX8_entry_1 rfl (lv_at hl 2 rfl) ?_
  refine r_cSi (As := [.int a1, .int a2]) (rest := []) X w (kX8_isCell (cap := cap) l D ca ad mem a1 a2  rfl) (gTS tw_365 tw_366 tw_65 tw_367) hdX8_isCell (by decide) rfl hl.1 rfl (Nat.le_of_ble_eq_true rfl) dX8_entry_2 ⟨Nat.zero_le _, Nat.zero_le _⟩ (fun H locs w => ?_)
  refine lv_if_eq (tgt := 19) X.1 X.2.1 dX8_entry_5 (by decide) (fun c1 => ?_) (fun c1 => ?_)
  · rw [if_pos c1] at h
    refine lv_iconst (v := (-1 : Int32)) X.1 X.2.1 dX8_entry_19 (by decide) ?_
    obtain ⟨rfl, rfl⟩ := Prod.mk.inj (Option.some.inj h)
    exact r_iret X M w dX8_entry_20
  · rw [if_neg c1] at h
    refine lv_iload_n X.1 X.2.1 dX8_entry_8 rfl (lv_at hl 3 rfl) ?_
    refine lv_iload X.1 X.2.1 dX8_entry_9 (lv_at hl 4 rfl) ?_
    refine lv_iload X.1 X.2.1 dX8_entry_11 (lv_at hl 5 rfl) ?_
    refine r_cSi (As := [.int a3, .int a4, .int a5]) (rest := []) X w (kX8_isEntry (cap := cap) l D ca ad mem a3 a4 a5  rfl) (gTS tw_368 tw_369 tw_65 tw_370) hdX8_isEntry (by decide) rfl hl.1 rfl (Nat.le_of_ble_eq_true rfl) dX8_entry_13 ⟨Nat.zero_le _, Nat.zero_le _⟩ (fun H locs w => ?_)
    refine lv_if_ne (tgt := 21) X.1 X.2.1 dX8_entry_16 (by decide) (fun c2 => ?_) (fun c2 => ?_)
    · rw [if_neg c2] at h
      refine lv_iload_n X.1 X.2.1 dX8_entry_21 rfl (lv_at hl 1 rfl) ?_
      refine lv_iload_n X.1 X.2.1 dX8_entry_22 rfl (lv_at hl 2 rfl) ?_
      refine r_cSi (As := [.int a1, .int a2]) (rest := []) X w (kX8_cellOf (cap := cap) l D ca ad mem a1 a2  rfl) (gTS tw_371 tw_372 tw_65 tw_373) hdX8_cellOf (by decide) rfl hl.1 rfl (Nat.le_of_ble_eq_true rfl) dX8_entry_23 ⟨Nat.zero_le _, Nat.zero_le _⟩ (fun H locs w => ?_)
      obtain ⟨x_3, ex_3, h⟩ := lk_some h
      refine lv_name ex_3 ?_
      refine lv_istore (lv' := [(6, .int x_3), (0, .ref (ad 0)), (1, .int a1), (2, .int a2), (3, .int a3), (4, .int a4), (5, .int a5)]) X.1 X.2.1 dX8_entry_26 hl (by decide) rfl (fun ls hl => ?_)
      refine lv_aload_n X.1 X.2.1 dX8_entry_28 rfl (lv_at hl 1 rfl) ?_
      refine r_getr (b2 := 1) X w lyC_0 rfl inT8 0 rfl rfl (by decide) rfl tw_312 dX8_entry_29 ?_
      refine lv_iload X.1 X.2.1 dX8_entry_32 (lv_at hl 0 rfl) ?_
      obtain ⟨hi4, h⟩ := gd_some h
      refine r_iald X w lyC_1 hi4 dX8_entry_34 ?_
      obtain ⟨x_5, ex_5, h⟩ := lk_some h
      refine lv_name ex_5 ?_
      refine lv_istore (lv' := [(7, .int x_5), (6, .int x_3), (0, .ref (ad 0)), (1, .int a1), (2, .int a2), (3, .int a3), (4, .int a4), (5, .int a5)]) X.1 X.2.1 dX8_entry_35 hl (by decide) rfl (fun ls hl => ?_)
      refine lv_iload_n X.1 X.2.1 dX8_entry_37 rfl (lv_at hl 5 rfl) ?_
      refine lv_if_ne (tgt := 45) X.1 X.2.1 dX8_entry_38 (by decide) (fun c6 => ?_) (fun c6 => ?_)
      · rw [if_neg c6] at h
        refine lv_iload_n X.1 X.2.1 dX8_entry_45 rfl (lv_at hl 5 rfl) ?_
        refine lv_iload X.1 X.2.1 dX8_entry_46 (lv_at hl 6 rfl) ?_
        refine lv_iload X.1 X.2.1 dX8_entry_48 (lv_at hl 7 rfl) ?_
        refine r_cSi (As := [.int a3, .int a4, .int a5]) (rest := []) X w (kX8_codeOf (cap := cap) l D ca ad mem a3 a4 a5  rfl) (gTS tw_374 tw_375 tw_65 tw_376) hdX8_codeOf (by decide) rfl hl.1 rfl (Nat.le_of_ble_eq_true rfl) dX8_entry_50 ⟨Nat.zero_le _, Nat.zero_le _⟩ (fun H locs w => ?_)
        exact wX8_entry_b53 X M w (lv_sub hl [2, 1, 0] rfl) h
      · rw [if_pos c6] at h
        refine lv_iconst (v := (0 : Int32)) X.1 X.2.1 dX8_entry_41 (by decide) ?_
        refine lv_goto (tgt := 53) X.1 X.2.1 dX8_entry_42 (by decide) ?_
        exact wX8_entry_b53 X M w (lv_sub hl [2, 1, 0] rfl) h
    · rw [if_pos c2] at h
      refine lv_iconst (v := (-1 : Int32)) X.1 X.2.1 dX8_entry_19 (by decide) ?_
      obtain ⟨rfl, rfl⟩ := Prod.mk.inj (Option.some.inj h)
      exact r_iret X M w dX8_entry_20
/-! WalkHouse.marks(III)I (W) -/
theorem hdX8_marks : yX8_marks.cls = RX8 ∧ yX8_marks.cls ≠ "java/lang/invoke/MethodHandle" ∧ yX8_marks.cls ≠ "java/lang/invoke/VarHandle" ∧ (parseMethodDescriptor yX8_marks.desc).map (fun d => d.parameters.length) = some 3 := by decide +kernel
def fX8_marks (mem : Mm) (a1 : Int32) (a2 : Int32) (a3 : Int32) : Option (Mm × Int32) :=
  if (fX8_isCell a1 a2) = 0 then some (mem, (-1 : Int32)) else if a3 < 0 then some (mem, (-1 : Int32)) else if a3 ≤ (3 : Int32) then lk (fX8_cellOf a1 a2) (fun x_4 => gd x_4 96 (if (fX8_kindOf (mem 1 x_4.toNatClampNeg)) = 0 then some (mem, (-1 : Int32)) else gd x_4 96 (lk (mem 2 x_4.toNatClampNeg) (fun x_8 => gd x_4 96 (wk mem 2 x_4.toNatClampNeg a3 (fun m10 => some (m10, x_8))))))) else some (mem, (-1 : Int32))
set_option maxRecDepth 100000 in
set_option maxHeartbeats 4000000 in
theorem kX8_marks {cap : Nat} (l : Launch) (D : va_G) (ca : Nat → ClassId) (ad : Nat → Nat) (mem : Mm) (a1 : Int32) (a2 : Int32) (a3 : Int32)  {mem' : Mm} {r : Int32} (h : fX8_marks mem a1 a2 a3 = some (mem', r)) : CtI l yX8_marks cX8_marks 6 (some .int) (rmx 1 21) D ca ad (layC cap) mem [.ref (ad 0), .int a1, .int a2, .int a3] mem' r := by
  refine CtI.of (by decide) (Nat.le_of_ble_eq_true rfl) ?_
  intro p e s m args below meth c H locs ls X M w hl
  replace X : CallFix p m c cX8_marks 6 s args TT RX8 := X
  replace hl : lv_has ls 6 [(0, .ref (ad 0)), (1, .int a1), (2, .int a2), (3, .int a3)] := hl
  unfold fX8_marks at h
  refine lv_iload_n X.1 X.2.1 dX8_marks_0 rfl (lv_at hl 1 rfl) ?_
  refine lv_iload_n X.1 X.2.1 dX8_marks_1 rfl (lv_at hl 2 rfl) ?_
  refine r_cSi (As := [.int a1, .int a2]) (rest := []) X w (kX8_isCell (cap := cap) l D ca ad mem a1 a2  rfl) (gTS tw_365 tw_366 tw_65 tw_367) hdX8_isCell (by decide) rfl hl.1 rfl (Nat.le_of_ble_eq_true rfl) dX8_marks_2 ⟨Nat.zero_le _, Nat.zero_le _⟩ (fun H locs w => ?_)
  refine lv_if_eq (tgt := 17) X.1 X.2.1 dX8_marks_5 (by decide) (fun c1 => ?_) (fun c1 => ?_)
  · rw [if_pos c1] at h
    refine lv_iconst (v := (-1 : Int32)) X.1 X.2.1 dX8_marks_17 (by decide) ?_
    obtain ⟨rfl, rfl⟩ := Prod.mk.inj (Option.some.inj h)
    exact r_iret X M w dX8_marks_18
  · rw [if_neg c1] at h
    refine lv_iload_n X.1 X.2.1 dX8_marks_8 rfl (lv_at hl 3 rfl) ?_
    refine lv_if_lt (tgt := 17) X.1 X.2.1 dX8_marks_9 (by decide) (fun c2 => ?_) (fun c2 => ?_)
    · rw [if_pos c2] at h
      refine lv_iconst (v := (-1 : Int32)) X.1 X.2.1 dX8_marks_17 (by decide) ?_
      obtain ⟨rfl, rfl⟩ := Prod.mk.inj (Option.some.inj h)
      exact r_iret X M w dX8_marks_18
    · rw [if_neg c2] at h
      refine lv_iload_n X.1 X.2.1 dX8_marks_12 rfl (lv_at hl 3 rfl) ?_
      refine lv_iconst (v := (3 : Int32)) X.1 X.2.1 dX8_marks_13 (by decide) ?_
      refine lv_icmp_le (tgt := 19) X.1 X.2.1 dX8_marks_14 (by decide) (fun c3 => ?_) (fun c3 => ?_)
      · rw [if_pos c3] at h
        refine lv_iload_n X.1 X.2.1 dX8_marks_19 rfl (lv_at hl 1 rfl) ?_
        refine lv_iload_n X.1 X.2.1 dX8_marks_20 rfl (lv_at hl 2 rfl) ?_
        refine r_cSi (As := [.int a1, .int a2]) (rest := []) X w (kX8_cellOf (cap := cap) l D ca ad mem a1 a2  rfl) (gTS tw_371 tw_372 tw_65 tw_373) hdX8_cellOf (by decide) rfl hl.1 rfl (Nat.le_of_ble_eq_true rfl) dX8_marks_21 ⟨Nat.zero_le _, Nat.zero_le _⟩ (fun H locs w => ?_)
        obtain ⟨x_4, ex_4, h⟩ := lk_some h
        refine lv_name ex_4 ?_
        refine lv_istore (lv' := [(4, .int x_4), (0, .ref (ad 0)), (1, .int a1), (2, .int a2), (3, .int a3)]) X.1 X.2.1 dX8_marks_24 hl (by decide) rfl (fun ls hl => ?_)
        refine lv_aload_n X.1 X.2.1 dX8_marks_26 rfl (lv_at hl 1 rfl) ?_
        refine r_getr (b2 := 1) X w lyC_0 rfl inT8 0 rfl rfl (by decide) rfl tw_312 dX8_marks_27 ?_
        refine lv_iload X.1 X.2.1 dX8_marks_30 (lv_at hl 0 rfl) ?_
        obtain ⟨hi5, h⟩ := gd_some h
        refine r_iald X w lyC_1 hi5 dX8_marks_32 ?_
        refine r_cSi (As := [.int (mem 1 x_4.toNatClampNeg)]) (rest := []) X w (kX8_kindOf (cap := cap) l D ca ad mem (mem 1 x_4.toNatClampNeg)  rfl) (gTS tw_381 tw_382 tw_65 tw_383) hdX8_kindOf (by decide) rfl hl.1 rfl (Nat.le_of_ble_eq_true rfl) dX8_marks_33 ⟨Nat.zero_le _, Nat.zero_le _⟩ (fun H locs w => ?_)
        refine lv_if_ne (tgt := 41) X.1 X.2.1 dX8_marks_36 (by decide) (fun c6 => ?_) (fun c6 => ?_)
        · rw [if_neg c6] at h
          refine lv_aload_n X.1 X.2.1 dX8_marks_41 rfl (lv_at hl 1 rfl) ?_
          refine r_getr (b2 := 2) X w lyC_0 rfl inT8 1 rfl rfl (by decide) rfl tw_313 dX8_marks_42 ?_
          refine lv_iload X.1 X.2.1 dX8_marks_45 (lv_at hl 0 rfl) ?_
          obtain ⟨hi7, h⟩ := gd_some h
          refine r_iald X w lyC_2 hi7 dX8_marks_47 ?_
          obtain ⟨x_8, ex_8, h⟩ := lk_some h
          refine lv_name ex_8 ?_
          refine lv_istore (lv' := [(5, .int x_8), (4, .int x_4), (0, .ref (ad 0)), (1, .int a1), (2, .int a2), (3, .int a3)]) X.1 X.2.1 dX8_marks_48 hl (by decide) rfl (fun ls hl => ?_)
          refine lv_aload_n X.1 X.2.1 dX8_marks_50 rfl (lv_at hl 2 rfl) ?_
          refine r_getr (b2 := 2) X w lyC_0 rfl inT8 1 rfl rfl (by decide) rfl tw_313 dX8_marks_51 ?_
          refine lv_iload X.1 X.2.1 dX8_marks_54 (lv_at hl 1 rfl) ?_
          refine lv_iload_n X.1 X.2.1 dX8_marks_56 rfl (lv_at hl 5 rfl) ?_
          obtain ⟨hi9, h⟩ := gd_some h
          refine r_iast X w lyC_2 hi9 dX8_marks_57 (fun H locs w => ?_)
          obtain ⟨m10, em10, h⟩ := wk_some h
          rw [em10] at w
          refine lv_iload X.1 X.2.1 dX8_marks_58 (lv_at hl 0 rfl) ?_
          obtain ⟨rfl, rfl⟩ := Prod.mk.inj (Option.some.inj h)
          exact r_iret X M w dX8_marks_60
        · rw [if_pos c6] at h
          refine lv_iconst (v := (-1 : Int32)) X.1 X.2.1 dX8_marks_39 (by decide) ?_
          obtain ⟨rfl, rfl⟩ := Prod.mk.inj (Option.some.inj h)
          exact r_iret X M w dX8_marks_40
      · rw [if_neg c3] at h
        refine lv_iconst (v := (-1 : Int32)) X.1 X.2.1 dX8_marks_17 (by decide) ?_
        obtain ⟨rfl, rfl⟩ := Prod.mk.inj (Option.some.inj h)
        exact r_iret X M w dX8_marks_18
/-! WalkHouse.isSpace(I)Z (T) -/
theorem hdX8_isSpace : yX8_isSpace.cls ≠ "java/lang/invoke/MethodHandle" ∧ yX8_isSpace.cls ≠ "java/lang/invoke/VarHandle" ∧ (parseMethodDescriptor yX8_isSpace.desc).map (fun d => d.parameters.length) = some 1 := by decide +kernel
def fX8_isSpace (a0 : Int32) : Int32 :=
  if a0 < 0 then (0 : Int32) else if (6 : Int32) ≤ a0 then (0 : Int32) else (1 : Int32)
set_option maxRecDepth 100000 in
set_option maxHeartbeats 4000000 in
theorem kX8_isSpace {cap : Nat} (l : Launch) (D : va_G) (ca : Nat → ClassId) (ad : Nat → Nat) (mem : Mm) (a0 : Int32)  {r : Int32} (h : fX8_isSpace a0 = r) : CtI l yX8_isSpace cX8_isSpace 1 (some .boolean) (rmx 0 0) D ca ad (layC cap) mem [.int a0] mem r := by
  refine CtI.of (by decide) (Nat.le_of_ble_eq_true rfl) ?_
  intro p e s m args below meth c H locs ls X M w hl
  replace X : CallFix p m c cX8_isSpace 1 s args TT RX8 := X
  replace hl : lv_has ls 1 [(0, .int a0)] := hl
  unfold fX8_isSpace at h
  refine lv_iload_n X.1 X.2.1 dX8_isSpace_0 rfl (lv_at hl 0 rfl) ?_
  refine lv_if_lt (tgt := 14) X.1 X.2.1 dX8_isSpace_1 (by decide) (fun c1 => ?_) (fun c1 => ?_)
  · rw [if_pos c1] at h
    refine lv_iconst (v := (0 : Int32)) X.1 X.2.1 dX8_isSpace_14 (by decide) ?_
    subst h
    exact r_zret X M w (by decide) dX8_isSpace_15
  · rw [if_neg c1] at h
    refine lv_iload_n X.1 X.2.1 dX8_isSpace_4 rfl (lv_at hl 0 rfl) ?_
    refine lv_bipush (v := (6 : Int32)) X.1 X.2.1 dX8_isSpace_5 (by decide) ?_
    refine lv_icmp_ge (tgt := 14) X.1 X.2.1 dX8_isSpace_7 (by decide) (fun c2 => ?_) (fun c2 => ?_)
    · rw [if_pos c2] at h
      refine lv_iconst (v := (0 : Int32)) X.1 X.2.1 dX8_isSpace_14 (by decide) ?_
      subst h
      exact r_zret X M w (by decide) dX8_isSpace_15
    · rw [if_neg c2] at h
      refine lv_iconst (v := (1 : Int32)) X.1 X.2.1 dX8_isSpace_10 (by decide) ?_
      refine lv_goto (tgt := 15) X.1 X.2.1 dX8_isSpace_11 (by decide) ?_
      subst h
      exact r_zret X M w (by decide) dX8_isSpace_15
theorem zX8_isSpace (a0 : Int32) : fX8_isSpace a0 &&& 1 = fX8_isSpace a0 := by
  unfold fX8_isSpace; (repeat' split) <;> (repeat' split) <;> first | decide
/-! WalkHouse.rootKey(I)I (T) -/
theorem hdX8_rootKey : yX8_rootKey.cls ≠ "java/lang/invoke/MethodHandle" ∧ yX8_rootKey.cls ≠ "java/lang/invoke/VarHandle" ∧ (parseMethodDescriptor yX8_rootKey.desc).map (fun d => d.parameters.length) = some 1 := by decide +kernel
def fX8_rootKey (a0 : Int32) : Int32 :=
  ((96 : Int32) + a0)
set_option maxRecDepth 100000 in
set_option maxHeartbeats 4000000 in
theorem kX8_rootKey {cap : Nat} (l : Launch) (D : va_G) (ca : Nat → ClassId) (ad : Nat → Nat) (mem : Mm) (a0 : Int32)  {r : Int32} (h : fX8_rootKey a0 = r) : CtI l yX8_rootKey cX8_rootKey 1 (some .int) (rmx 0 0) D ca ad (layC cap) mem [.int a0] mem r := by
  refine CtI.of (by decide) (Nat.le_of_ble_eq_true rfl) ?_
  intro p e s m args below meth c H locs ls X M w hl
  replace X : CallFix p m c cX8_rootKey 1 s args TT RX8 := X
  replace hl : lv_has ls 1 [(0, .int a0)] := hl
  unfold fX8_rootKey at h
  refine lv_bipush (v := (96 : Int32)) X.1 X.2.1 dX8_rootKey_0 (by decide) ?_
  refine lv_iload_n X.1 X.2.1 dX8_rootKey_2 rfl (lv_at hl 0 rfl) ?_
  refine lv_iadd X.1 X.2.1 dX8_rootKey_3 ?_
  subst h
  exact r_iret X M w dX8_rootKey_4
/-! WalkHouse.root(II)I (W) -/
theorem hdX8_root : yX8_root.cls = RX8 ∧ yX8_root.cls ≠ "java/lang/invoke/MethodHandle" ∧ yX8_root.cls ≠ "java/lang/invoke/VarHandle" ∧ (parseMethodDescriptor yX8_root.desc).map (fun d => d.parameters.length) = some 2 := by decide +kernel
def fX8_root (mem : Mm) (a1 : Int32) (a2 : Int32) : Option (Mm × Int32) :=
  if (fX8_isSpace a1) = 0 then some (mem, (-2 : Int32)) else if a2 < (-1 : Int32) then some (mem, (-2 : Int32)) else if a2 < (12 : Int32) then gd a1 6 (lk (mem 4 a1.toNatClampNeg) (fun x_5 => if x_5 = a2 then some (mem, x_5) else bw (fX0_note mem (fX8_rootKey a1) x_5) (fun m8 r7 => gd a1 6 (wk m8 4 a1.toNatClampNeg a2 (fun m10 => some (m10, x_5)))))) else some (mem, (-2 : Int32))
set_option maxRecDepth 100000 in
set_option maxHeartbeats 4000000 in
theorem kX8_root {cap : Nat} (l : Launch) (D : va_G) (ca : Nat → ClassId) (ad : Nat → Nat) (mem : Mm) (a1 : Int32) (a2 : Int32)  {mem' : Mm} {r : Int32} (h : fX8_root mem a1 a2 = some (mem', r)) : CtI l yX8_root cX8_root 4 (some .int) (rmx 1 22) D ca ad (layC cap) mem [.ref (ad 0), .int a1, .int a2] mem' r := by
  refine CtI.of (by decide) (Nat.le_of_ble_eq_true rfl) ?_
  intro p e s m args below meth c H locs ls X M w hl
  replace X : CallFix p m c cX8_root 4 s args TT RX8 := X
  replace hl : lv_has ls 4 [(0, .ref (ad 0)), (1, .int a1), (2, .int a2)] := hl
  unfold fX8_root at h
  refine lv_iload_n X.1 X.2.1 dX8_root_0 rfl (lv_at hl 1 rfl) ?_
  refine r_cSi (As := [.int a1]) (rest := []) X w (kX8_isSpace (cap := cap) l D ca ad mem a1  rfl) (gTS tw_392 tw_393 tw_65 tw_394) hdX8_isSpace (by decide) rfl hl.1 rfl (Nat.le_of_ble_eq_true rfl) dX8_root_1 ⟨Nat.zero_le _, Nat.zero_le _⟩ (fun H locs w => ?_)
  refine lv_if_eq (tgt := 18) X.1 X.2.1 dX8_root_4 (by decide) (fun c1 => ?_) (fun c1 => ?_)
  · rw [if_pos c1] at h
    refine lv_bipush (v := (-2 : Int32)) X.1 X.2.1 dX8_root_18 (by decide) ?_
    obtain ⟨rfl, rfl⟩ := Prod.mk.inj (Option.some.inj h)
    exact r_iret X M w dX8_root_20
  · rw [if_neg c1] at h
    refine lv_iload_n X.1 X.2.1 dX8_root_7 rfl (lv_at hl 2 rfl) ?_
    refine lv_iconst (v := (-1 : Int32)) X.1 X.2.1 dX8_root_8 (by decide) ?_
    refine lv_icmp_lt (tgt := 18) X.1 X.2.1 dX8_root_9 (by decide) (fun c2 => ?_) (fun c2 => ?_)
    · rw [if_pos c2] at h
      refine lv_bipush (v := (-2 : Int32)) X.1 X.2.1 dX8_root_18 (by decide) ?_
      obtain ⟨rfl, rfl⟩ := Prod.mk.inj (Option.some.inj h)
      exact r_iret X M w dX8_root_20
    · rw [if_neg c2] at h
      refine lv_iload_n X.1 X.2.1 dX8_root_12 rfl (lv_at hl 2 rfl) ?_
      refine lv_bipush (v := (12 : Int32)) X.1 X.2.1 dX8_root_13 (by decide) ?_
      refine lv_icmp_lt (tgt := 21) X.1 X.2.1 dX8_root_15 (by decide) (fun c3 => ?_) (fun c3 => ?_)
      · rw [if_pos c3] at h
        refine lv_aload_n X.1 X.2.1 dX8_root_21 rfl (lv_at hl 0 rfl) ?_
        refine r_getr (b2 := 3) X w lyC_0 rfl inT8 2 rfl rfl (by decide) rfl tw_314 dX8_root_22 ?_
        refine r_getr (b2 := 4) X w lyC_3 rfl inT4 0 rfl rfl (by decide) rfl tw_101 dX8_root_25 ?_
        refine lv_iload_n X.1 X.2.1 dX8_root_28 rfl (lv_at hl 1 rfl) ?_
        obtain ⟨hi4, h⟩ := gd_some h
        refine r_iald X w lyC_4 hi4 dX8_root_29 ?_
        obtain ⟨x_5, ex_5, h⟩ := lk_some h
        refine lv_name ex_5 ?_
        refine lv_istore_n (lv' := [(3, .int x_5), (0, .ref (ad 0)), (1, .int a1), (2, .int a2)]) X.1 X.2.1 dX8_root_30 rfl hl (by decide) rfl (fun ls hl => ?_)
        refine lv_iload_n X.1 X.2.1 dX8_root_31 rfl (lv_at hl 0 rfl) ?_
        refine lv_iload_n X.1 X.2.1 dX8_root_32 rfl (lv_at hl 3 rfl) ?_
        refine lv_icmp_eq (tgt := 58) X.1 X.2.1 dX8_root_33 (by decide) (fun c6 => ?_) (fun c6 => ?_)
        · rw [if_pos c6] at h
          refine lv_iload_n X.1 X.2.1 dX8_root_58 rfl (lv_at hl 0 rfl) ?_
          obtain ⟨rfl, rfl⟩ := Prod.mk.inj (Option.some.inj h)
          exact r_iret X M w dX8_root_59
        · rw [if_neg c6] at h
          refine lv_aload_n X.1 X.2.1 dX8_root_36 rfl (lv_at hl 1 rfl) ?_
          refine r_getr (b2 := 37) X w lyC_0 rfl inT8 8 rfl rfl (by decide) rfl tw_320 dX8_root_37 ?_
          refine lv_iload_n X.1 X.2.1 dX8_root_40 rfl (lv_at hl 2 rfl) ?_
          refine r_cSi (As := [.int a1]) (rest := [.ref (ad 37)]) X w (kX8_rootKey (cap := cap) l D ca ad mem a1  rfl) (gTS tw_395 tw_396 tw_65 tw_397) hdX8_rootKey (by decide) rfl hl.1 rfl (Nat.le_of_ble_eq_true rfl) dX8_root_41 ⟨Nat.zero_le _, Nat.zero_le _⟩ (fun H locs w => ?_)
          refine lv_iload_n X.1 X.2.1 dX8_root_44 rfl (lv_at hl 0 rfl) ?_
          obtain ⟨m8, r7, hr7, h⟩ := bw_some h
          refine r_cVv (As := [.int (fX8_rootKey a1), .int x_5]) (rest := []) X w lyC_37 rfl (kX0_note (cap := cap) l D ca ad mem (fX8_rootKey a1) x_5  hr7) (gTV tw_377 tw_378 tw_379 tw_72 tw_380) hdX0_note (by decide) rfl hl.1 rfl (Nat.le_of_ble_eq_true rfl) dX8_root_45 ⟨Nat.zero_le _, Nat.zero_le _⟩ (fun H locs w => ?_)
          refine lv_aload_n X.1 X.2.1 dX8_root_48 rfl (lv_at hl 1 rfl) ?_
          refine r_getr (b2 := 3) X w lyC_0 rfl inT8 2 rfl rfl (by decide) rfl tw_314 dX8_root_49 ?_
          refine r_getr (b2 := 4) X w lyC_3 rfl inT4 0 rfl rfl (by decide) rfl tw_101 dX8_root_52 ?_
          refine lv_iload_n X.1 X.2.1 dX8_root_55 rfl (lv_at hl 2 rfl) ?_
          refine lv_iload_n X.1 X.2.1 dX8_root_56 rfl (lv_at hl 3 rfl) ?_
          obtain ⟨hi9, h⟩ := gd_some h
          refine r_iast X w lyC_4 hi9 dX8_root_57 (fun H locs w => ?_)
          obtain ⟨m10, em10, h⟩ := wk_some h
          rw [em10] at w
          refine lv_iload_n X.1 X.2.1 dX8_root_58 rfl (lv_at hl 0 rfl) ?_
          obtain ⟨rfl, rfl⟩ := Prod.mk.inj (Option.some.inj h)
          exact r_iret X M w dX8_root_59
      · rw [if_neg c3] at h
        refine lv_bipush (v := (-2 : Int32)) X.1 X.2.1 dX8_root_18 (by decide) ?_
        obtain ⟨rfl, rfl⟩ := Prod.mk.inj (Option.some.inj h)
        exact r_iret X M w dX8_root_20
/-! WalkHouse.abortWalkersOf(I)V (W) -/
theorem hdX8_abortWalkersOf : yX8_abortWalkersOf.cls = RX8 ∧ yX8_abortWalkersOf.cls ≠ "java/lang/invoke/MethodHandle" ∧ yX8_abortWalkersOf.cls ≠ "java/lang/invoke/VarHandle" ∧ (parseMethodDescriptor yX8_abortWalkersOf.desc).map (fun d => d.parameters.length) = some 1 := by decide +kernel
def fX8_abortWalkersOf_b2_s  (k2 : Mm → Int32 → Int32 → Option (Mm × Unit)) (mem : Mm) (x1 : Int32) (x2 : Int32) : Option (Mm × Unit) :=
  if (4 : Int32) ≤ x2 then some (mem, ()) else gd x2 4 (lkN (23 + 1 + 2 * x2.toNatClampNeg) (fun b3 => if (mem b3 4) = x1 then gd x2 4 (lkN (23 + 1 + 2 * x2.toNatClampNeg) (fun b6 => bw (fX6_abort mem b6) (fun m8 r7 => k2 m8 x1 (x2 + (1 : Int32))))) else k2 mem x1 (x2 + (1 : Int32))))
def fX8_abortWalkersOf_b2  : Nat → Mm → Int32 → Int32 → Option (Mm × Unit)
  | 0 => fun _ _ _ => none
  | n + 1 => fX8_abortWalkersOf_b2_s  (fX8_abortWalkersOf_b2  n)
set_option maxRecDepth 100000 in
set_option maxHeartbeats 4000000 in
theorem wX8_abortWalkersOf_b2_s {p : Program} {l : Launch} {e : Env} {s : State} {m : MethodId} {args : Array Value} {below : List Frame} {meth : Method} {c : Code} {D : va_G} {ca : Nat → ClassId} {ad : Nat → Nat} {cap : Nat} {H : Heap} {locs : List Loc} {ls : Array Slot} {mem : Mm} {x1 : Int32} {x2 : Int32}  {k2 : Mm → Int32 → Int32 → Option (Mm × Unit)} {mem' : Mm} {r : Unit} (X : CallFix p m c cX8_abortWalkersOf 3 s args TT RX8) (M : Mt meth none)  (hk2 : ∀ (mem : Mm) (x1 : Int32) (x2 : Int32) (H : Heap) (locs : List Loc) (ls : Array Slot) , Wd D ca ad (layC cap) (AA ad (layC cap).length) s.heap s mem H locs → lv_has ls 3 [(0, .ref (ad 0)), (1, .int x1), (2, .int x2)] → k2 mem x1 x2 = some (mem', r) → W p l e (rmx 1 20) s m args below meth c H locs 0 0 (EndV D ca ad (layC cap) mem' below args s) (F0 m 2 ls []))  (w : Wd D ca ad (layC cap) (AA ad (layC cap).length) s.heap s mem H locs) (hl : lv_has ls 3 [(0, .ref (ad 0)), (1, .int x1), (2, .int x2)]) (h : fX8_abortWalkersOf_b2_s  k2 mem x1 x2 = some (mem', r)) : W p l e (rmx 1 20) s m args below meth c H locs 0 0 (EndV D ca ad (layC cap) mem' below args s) (F0 m 2 ls []) := by
  unfold fX8_abortWalkersOf_b2_s at h
  refine lv_iload_n X.1 X.2.1 dX8_abortWalkersOf_2 rfl (lv_at hl 2 rfl) ?_
  refine lv_iconst (v := (4 : Int32)) X.1 X.2.1 dX8_abortWalkersOf_3 (by decide) ?_
  refine lv_icmp_ge (tgt := 35) X.1 X.2.1 dX8_abortWalkersOf_4 (by decide) (fun c1 => ?_) (fun c1 => ?_)
  · rw [if_pos c1] at h
    obtain ⟨rfl, -⟩ := Prod.mk.inj (Option.some.inj h)
    exact r_vret X M w dX8_abortWalkersOf_35
  · rw [if_neg c1] at h
    refine lv_aload_n X.1 X.2.1 dX8_abortWalkersOf_7 rfl (lv_at hl 0 rfl) ?_
    refine r_getr (b2 := 23) X w lyC_0 rfl inT8 5 rfl rfl (by decide) rfl tw_317 dX8_abortWalkersOf_8 ?_
    refine lv_iload_n X.1 X.2.1 dX8_abortWalkersOf_11 rfl (lv_at hl 2 rfl) ?_
    obtain ⟨hi2, h⟩ := gd_some h
    obtain ⟨b3, eb3, h⟩ := lkN_some h
    refine r_aald X w (t := 3) lyC_23 rfl hi2 eb3 dX8_abortWalkersOf_12 ?_
    have hb3 : isWk b3 := isWk_of hi2 eb3
    refine r_get X w (lyWk hb3) rfl inT6 4 rfl (by decide) rfl tw_194 dX8_abortWalkersOf_13 ?_
    refine lv_iload_n X.1 X.2.1 dX8_abortWalkersOf_16 rfl (lv_at hl 1 rfl) ?_
    refine lv_icmp_ne (tgt := 29) X.1 X.2.1 dX8_abortWalkersOf_17 (by decide) (fun c4 => ?_) (fun c4 => ?_)
    · rw [if_neg c4] at h
      refine lv_iinc (v := (x2 + (1 : Int32))) (lv' := [(2, .int (x2 + (1 : Int32))), (0, .ref (ad 0)), (1, .int x1)]) X.1 X.2.1 dX8_abortWalkersOf_29 hl (k := 2) rfl rfl (by decide) rfl (fun ls hl => ?_)
      refine lv_goto (tgt := 2) X.1 X.2.1 dX8_abortWalkersOf_32 (by decide) ?_
      exact hk2 _ _ _ H locs ls w (lv_sub hl [1, 2, 0] rfl) h
    · rw [if_pos c4] at h
      refine lv_aload_n X.1 X.2.1 dX8_abortWalkersOf_20 rfl (lv_at hl 0 rfl) ?_
      refine r_getr (b2 := 23) X w lyC_0 rfl inT8 5 rfl rfl (by decide) rfl tw_317 dX8_abortWalkersOf_21 ?_
      refine lv_iload_n X.1 X.2.1 dX8_abortWalkersOf_24 rfl (lv_at hl 2 rfl) ?_
      obtain ⟨hi5, h⟩ := gd_some h
      obtain ⟨b6, eb6, h⟩ := lkN_some h
      refine r_aald X w (t := 3) lyC_23 rfl hi5 eb6 dX8_abortWalkersOf_25 ?_
      have hb6 : isWk b6 := isWk_of hi5 eb6
      obtain ⟨m8, r7, hr7, h⟩ := bw_some h
      refine r_cVv (As := []) (rest := []) X w (lyWk hb6) rfl (kX6_abort (cap := cap) l D ca ad mem b6 hb6 hr7) (gTV tw_426 tw_427 tw_428 tw_70 tw_429) hdX6_abort (by decide) rfl hl.1 rfl (Nat.le_of_ble_eq_true rfl) dX8_abortWalkersOf_26 ⟨Nat.zero_le _, Nat.zero_le _⟩ (fun H locs w => ?_)
      refine lv_iinc (v := (x2 + (1 : Int32))) (lv' := [(2, .int (x2 + (1 : Int32))), (0, .ref (ad 0)), (1, .int x1)]) X.1 X.2.1 dX8_abortWalkersOf_29 hl (k := 2) rfl rfl (by decide) rfl (fun ls hl => ?_)
      refine lv_goto (tgt := 2) X.1 X.2.1 dX8_abortWalkersOf_32 (by decide) ?_
      exact hk2 _ _ _ H locs ls w (lv_sub hl [1, 2, 0] rfl) h
set_option maxRecDepth 100000 in
set_option maxHeartbeats 4000000 in
theorem wX8_abortWalkersOf_b2 {p : Program} {l : Launch} {e : Env} {s : State} {m : MethodId} {args : Array Value} {below : List Frame} {meth : Method} {c : Code} {D : va_G} {ca : Nat → ClassId} {ad : Nat → Nat} {cap : Nat}  {mem' : Mm} {r : Unit} (X : CallFix p m c cX8_abortWalkersOf 3 s args TT RX8) (M : Mt meth none)  : ∀ (n : Nat) (mem : Mm) (x1 : Int32) (x2 : Int32) (H : Heap) (locs : List Loc) (ls : Array Slot)  (_ : Wd D ca ad (layC cap) (AA ad (layC cap).length) s.heap s mem H locs) (_ : lv_has ls 3 [(0, .ref (ad 0)), (1, .int x1), (2, .int x2)]) (_ : fX8_abortWalkersOf_b2  n mem x1 x2 = some (mem', r)), W p l e (rmx 1 20) s m args below meth c H locs 0 0 (EndV D ca ad (layC cap) mem' below args s) (F0 m 2 ls []) := by
  intro n
  induction n with
  | zero => intro mem x1 x2 H locs ls  w hl h; exact (nofun : (none : Option (Mm × Unit)) = _ → _) h
  | succ n ih => intro mem x1 x2 H locs ls  w hl h; exact wX8_abortWalkersOf_b2_s X M  ih  w hl h
def fX8_abortWalkersOf (mem : Mm) (a1 : Int32) : Option (Mm × Unit) :=
  fX8_abortWalkersOf_b2 2000 mem a1 (0 : Int32)
set_option maxRecDepth 100000 in
set_option maxHeartbeats 4000000 in
theorem kX8_abortWalkersOf {cap : Nat} (l : Launch) (D : va_G) (ca : Nat → ClassId) (ad : Nat → Nat) (mem : Mm) (a1 : Int32)  {mem' : Mm} {r : Unit} (h : fX8_abortWalkersOf mem a1 = some (mem', r)) : CtV l yX8_abortWalkersOf cX8_abortWalkersOf 3 none (rmx 1 20) D ca ad (layC cap) mem [.ref (ad 0), .int a1] mem' := by
  refine CtV.of (by decide) (Nat.le_of_ble_eq_true rfl) ?_
  intro p e s m args below meth c H locs ls X M w hl
  replace X : CallFix p m c cX8_abortWalkersOf 3 s args TT RX8 := X
  replace hl : lv_has ls 3 [(0, .ref (ad 0)), (1, .int a1)] := hl
  unfold fX8_abortWalkersOf at h
  refine lv_iconst (v := (0 : Int32)) X.1 X.2.1 dX8_abortWalkersOf_0 (by decide) ?_
  refine lv_istore_n (lv' := [(2, .int (0 : Int32)), (0, .ref (ad 0)), (1, .int a1)]) X.1 X.2.1 dX8_abortWalkersOf_1 rfl hl (by decide) rfl (fun ls hl => ?_)
  exact wX8_abortWalkersOf_b2 X M _ _ _ _ H locs ls w (lv_sub hl [1, 2, 0] rfl) h
/-! WalkHouse.forgetTag(I)V (W) -/
theorem hdX8_forgetTag : yX8_forgetTag.cls = RX8 ∧ yX8_forgetTag.cls ≠ "java/lang/invoke/MethodHandle" ∧ yX8_forgetTag.cls ≠ "java/lang/invoke/VarHandle" ∧ (parseMethodDescriptor yX8_forgetTag.desc).map (fun d => d.parameters.length) = some 1 := by decide +kernel
def fX8_forgetTag (mem : Mm) (a1 : Int32) : Option (Mm × Unit) :=
  bw (fX8_abortWalkersOf mem a1) (fun m2 r1 => bw (fX5_dropTag m2 7 a1 (1 : Int32)) (fun m4 r3 => bw (fX5_dropTag m4 15 a1 (1 : Int32)) (fun m6 r5 => some (m6, ()))))
set_option maxRecDepth 100000 in
set_option maxHeartbeats 4000000 in
theorem kX8_forgetTag {cap : Nat} (l : Launch) (D : va_G) (ca : Nat → ClassId) (ad : Nat → Nat) (mem : Mm) (a1 : Int32)  {mem' : Mm} {r : Unit} (h : fX8_forgetTag mem a1 = some (mem', r)) : CtV l yX8_forgetTag cX8_forgetTag 2 none (rmx 2 45) D ca ad (layC cap) mem [.ref (ad 0), .int a1] mem' := by
  refine CtV.of (by decide) (Nat.le_of_ble_eq_true rfl) ?_
  intro p e s m args below meth c H locs ls X M w hl
  replace X : CallFix p m c cX8_forgetTag 2 s args TT RX8 := X
  replace hl : lv_has ls 2 [(0, .ref (ad 0)), (1, .int a1)] := hl
  unfold fX8_forgetTag at h
  refine lv_aload_n X.1 X.2.1 dX8_forgetTag_0 rfl (lv_at hl 0 rfl) ?_
  refine lv_iload_n X.1 X.2.1 dX8_forgetTag_1 rfl (lv_at hl 1 rfl) ?_
  obtain ⟨m2, r1, hr1, h⟩ := bw_some h
  refine r_cVv (As := [.int a1]) (rest := []) X w lyC_0 rfl (kX8_abortWalkersOf (cap := cap) l D ca ad mem a1  hr1) (gTV tw_422 tw_424 tw_1 tw_65 tw_425) hdX8_abortWalkersOf (by decide) rfl hl.1 rfl (Nat.le_of_ble_eq_true rfl) dX8_forgetTag_2 ⟨Nat.zero_le _, Nat.zero_le _⟩ (fun H locs w => ?_)
  refine lv_aload_n X.1 X.2.1 dX8_forgetTag_5 rfl (lv_at hl 0 rfl) ?_
  refine r_getr (b2 := 7) X w lyC_0 rfl inT8 3 rfl rfl (by decide) rfl tw_315 dX8_forgetTag_6 ?_
  refine lv_iload_n X.1 X.2.1 dX8_forgetTag_9 rfl (lv_at hl 1 rfl) ?_
  refine lv_iconst (v := (1 : Int32)) X.1 X.2.1 dX8_forgetTag_10 (by decide) ?_
  obtain ⟨m4, r3, hr3, h⟩ := bw_some h
  refine r_cVi (As := [.int a1, .int (1 : Int32)]) (rest := []) X w lyC_7 rfl (kX5_dropTag (cap := cap) l D ca ad m2 7 a1 (1 : Int32) isSt7 hr3) (gTV tw_430 tw_431 tw_432 tw_68 tw_433) hdX5_dropTag (by decide) rfl hl.1 rfl (Nat.le_of_ble_eq_true rfl) dX8_forgetTag_11 ⟨Nat.zero_le _, Nat.zero_le _⟩ (fun H locs w => ?_)
  refine lv_pop X.1 X.2.1 dX8_forgetTag_14 rfl ?_
  refine lv_aload_n X.1 X.2.1 dX8_forgetTag_15 rfl (lv_at hl 0 rfl) ?_
  refine r_getr (b2 := 15) X w lyC_0 rfl inT8 4 rfl rfl (by decide) rfl tw_316 dX8_forgetTag_16 ?_
  refine lv_iload_n X.1 X.2.1 dX8_forgetTag_19 rfl (lv_at hl 1 rfl) ?_
  refine lv_iconst (v := (1 : Int32)) X.1 X.2.1 dX8_forgetTag_20 (by decide) ?_
  obtain ⟨m6, r5, hr5, h⟩ := bw_some h
  refine r_cVi (As := [.int a1, .int (1 : Int32)]) (rest := []) X w lyC_15 rfl (kX5_dropTag (cap := cap) l D ca ad m4 15 a1 (1 : Int32) isSt15 hr5) (gTV tw_430 tw_431 tw_432 tw_68 tw_433) hdX5_dropTag (by decide) rfl hl.1 rfl (Nat.le_of_ble_eq_true rfl) dX8_forgetTag_21 ⟨Nat.zero_le _, Nat.zero_le _⟩ (fun H locs w => ?_)
  refine lv_pop X.1 X.2.1 dX8_forgetTag_24 rfl ?_
  obtain ⟨rfl, -⟩ := Prod.mk.inj (Option.some.inj h)
  exact r_vret X M w dX8_forgetTag_25
/-! WalkHouse.current(I)I (W) -/
theorem hdX8_current : yX8_current.cls = RX8 ∧ yX8_current.cls ≠ "java/lang/invoke/MethodHandle" ∧ yX8_current.cls ≠ "java/lang/invoke/VarHandle" ∧ (parseMethodDescriptor yX8_current.desc).map (fun d => d.parameters.length) = some 1 := by decide +kernel
def fX8_current_b69  (mem : Mm) (x1 : Int32) (x2 : Int32) : Option (Mm × Int32) :=
  gd x1 6 (wk mem 5 x1.toNatClampNeg x2 (fun m2 => gd x1 6 (some (m2, (m2 5 x1.toNatClampNeg)))))
set_option maxRecDepth 100000 in
set_option maxHeartbeats 4000000 in
theorem wX8_current_b69 {p : Program} {l : Launch} {e : Env} {s : State} {m : MethodId} {args : Array Value} {below : List Frame} {meth : Method} {c : Code} {D : va_G} {ca : Nat → ClassId} {ad : Nat → Nat} {cap : Nat} {H : Heap} {locs : List Loc} {ls : Array Slot} {mem : Mm} {x1 : Int32} {x2 : Int32}  {mem' : Mm} {r : Int32} (X : CallFix p m c cX8_current 3 s args TT RX8) (M : Mt meth (some .int))   (w : Wd D ca ad (layC cap) (AA ad (layC cap).length) s.heap s mem H locs) (hl : lv_has ls 3 [(0, .ref (ad 0)), (1, .int x1), (2, .int x2)]) (h : fX8_current_b69  mem x1 x2 = some (mem', r)) : W p l e (rmx 3 66) s m args below meth c H locs 0 0 (EndI D ca ad (layC cap) mem' r below args s) (F0 m 69 ls []) := by
  unfold fX8_current_b69 at h
  refine lv_aload_n X.1 X.2.1 dX8_current_69 rfl (lv_at hl 0 rfl) ?_
  refine r_getr (b2 := 3) X w lyC_0 rfl inT8 2 rfl rfl (by decide) rfl tw_314 dX8_current_70 ?_
  refine r_getr (b2 := 5) X w lyC_3 rfl inT4 1 rfl rfl (by decide) rfl tw_103 dX8_current_73 ?_
  refine lv_iload_n X.1 X.2.1 dX8_current_76 rfl (lv_at hl 1 rfl) ?_
  refine lv_iload_n X.1 X.2.1 dX8_current_77 rfl (lv_at hl 2 rfl) ?_
  obtain ⟨hi1, h⟩ := gd_some h
  refine r_iast X w lyC_5 hi1 dX8_current_78 (fun H locs w => ?_)
  obtain ⟨m2, em2, h⟩ := wk_some h
  rw [em2] at w
  refine lv_aload_n X.1 X.2.1 dX8_current_79 rfl (lv_at hl 0 rfl) ?_
  refine r_getr (b2 := 3) X w lyC_0 rfl inT8 2 rfl rfl (by decide) rfl tw_314 dX8_current_80 ?_
  refine r_getr (b2 := 5) X w lyC_3 rfl inT4 1 rfl rfl (by decide) rfl tw_103 dX8_current_83 ?_
  refine lv_iload_n X.1 X.2.1 dX8_current_86 rfl (lv_at hl 1 rfl) ?_
  obtain ⟨hi3, h⟩ := gd_some h
  refine r_iald X w lyC_5 hi3 dX8_current_87 ?_
  obtain ⟨rfl, rfl⟩ := Prod.mk.inj (Option.some.inj h)
  exact r_iret X M w dX8_current_88
def fX8_current (mem : Mm) (a1 : Int32) : Option (Mm × Int32) :=
  if (fX8_isSpace a1) = 0 then some (mem, (-1 : Int32)) else gd a1 6 (if (mem 4 a1.toNatClampNeg) = (-1 : Int32) then some (mem, (-1 : Int32)) else bw (fX4_enter mem a1) (fun m5 r4 => gd a1 6 (if (m5 5 a1.toNatClampNeg) = (-1 : Int32) then bd (fX4_leastFreeTag m5) (fun r9 => if r9 = (-1 : Int32) then bw (fX4_takeOldestTag m5) (fun m12 r11 => bw (fX8_forgetTag m12 r11) (fun m14 r13 => fX8_current_b69 m14 a1 r11)) else fX8_current_b69 m5 a1 r9) else gd a1 6 (some (m5, (m5 5 a1.toNatClampNeg))))))
set_option maxRecDepth 100000 in
set_option maxHeartbeats 4000000 in
theorem kX8_current {cap : Nat} (l : Launch) (D : va_G) (ca : Nat → ClassId) (ad : Nat → Nat) (mem : Mm) (a1 : Int32)  {mem' : Mm} {r : Int32} (h : fX8_current mem a1 = some (mem', r)) : CtI l yX8_current cX8_current 3 (some .int) (rmx 3 66) D ca ad (layC cap) mem [.ref (ad 0), .int a1] mem' r := by
  refine CtI.of (by decide) (Nat.le_of_ble_eq_true rfl) ?_
  intro p e s m args below meth c H locs ls X M w hl
  replace X : CallFix p m c cX8_current 3 s args TT RX8 := X
  replace hl : lv_has ls 3 [(0, .ref (ad 0)), (1, .int a1)] := hl
  unfold fX8_current at h
  refine lv_iload_n X.1 X.2.1 dX8_current_0 rfl (lv_at hl 1 rfl) ?_
  refine r_cSi (As := [.int a1]) (rest := []) X w (kX8_isSpace (cap := cap) l D ca ad mem a1  rfl) (gTS tw_392 tw_393 tw_65 tw_394) hdX8_isSpace (by decide) rfl hl.1 rfl (Nat.le_of_ble_eq_true rfl) dX8_current_1 ⟨Nat.zero_le _, Nat.zero_le _⟩ (fun H locs w => ?_)
  refine lv_if_eq (tgt := 20) X.1 X.2.1 dX8_current_4 (by decide) (fun c1 => ?_) (fun c1 => ?_)
  · rw [if_pos c1] at h
    refine lv_iconst (v := (-1 : Int32)) X.1 X.2.1 dX8_current_20 (by decide) ?_
    obtain ⟨rfl, rfl⟩ := Prod.mk.inj (Option.some.inj h)
    exact r_iret X M w dX8_current_21
  · rw [if_neg c1] at h
    refine lv_aload_n X.1 X.2.1 dX8_current_7 rfl (lv_at hl 0 rfl) ?_
    refine r_getr (b2 := 3) X w lyC_0 rfl inT8 2 rfl rfl (by decide) rfl tw_314 dX8_current_8 ?_
    refine r_getr (b2 := 4) X w lyC_3 rfl inT4 0 rfl rfl (by decide) rfl tw_101 dX8_current_11 ?_
    refine lv_iload_n X.1 X.2.1 dX8_current_14 rfl (lv_at hl 1 rfl) ?_
    obtain ⟨hi2, h⟩ := gd_some h
    refine r_iald X w lyC_4 hi2 dX8_current_15 ?_
    refine lv_iconst (v := (-1 : Int32)) X.1 X.2.1 dX8_current_16 (by decide) ?_
    refine lv_icmp_ne (tgt := 22) X.1 X.2.1 dX8_current_17 (by decide) (fun c3 => ?_) (fun c3 => ?_)
    · rw [if_neg c3] at h
      refine lv_aload_n X.1 X.2.1 dX8_current_22 rfl (lv_at hl 0 rfl) ?_
      refine r_getr (b2 := 3) X w lyC_0 rfl inT8 2 rfl rfl (by decide) rfl tw_314 dX8_current_23 ?_
      refine lv_iload_n X.1 X.2.1 dX8_current_26 rfl (lv_at hl 1 rfl) ?_
      obtain ⟨m5, r4, hr4, h⟩ := bw_some h
      refine r_cVv (As := [.int a1]) (rest := []) X w lyC_3 rfl (kX4_enter (cap := cap) l D ca ad mem a1  hr4) (gTV tw_402 tw_403 tw_404 tw_66 tw_405) hdX4_enter (by decide) rfl hl.1 rfl (Nat.le_of_ble_eq_true rfl) dX8_current_27 ⟨Nat.zero_le _, Nat.zero_le _⟩ (fun H locs w => ?_)
      refine lv_aload_n X.1 X.2.1 dX8_current_30 rfl (lv_at hl 0 rfl) ?_
      refine r_getr (b2 := 3) X w lyC_0 rfl inT8 2 rfl rfl (by decide) rfl tw_314 dX8_current_31 ?_
      refine r_getr (b2 := 5) X w lyC_3 rfl inT4 1 rfl rfl (by decide) rfl tw_103 dX8_current_34 ?_
      refine lv_iload_n X.1 X.2.1 dX8_current_37 rfl (lv_at hl 1 rfl) ?_
      obtain ⟨hi6, h⟩ := gd_some h
      refine r_iald X w lyC_5 hi6 dX8_current_38 ?_
      refine lv_iconst (v := (-1 : Int32)) X.1 X.2.1 dX8_current_39 (by decide) ?_
      refine lv_icmp_ne (tgt := 79) X.1 X.2.1 dX8_current_40 (by decide) (fun c7 => ?_) (fun c7 => ?_)
      · rw [if_neg c7] at h
        refine lv_aload_n X.1 X.2.1 dX8_current_79 rfl (lv_at hl 0 rfl) ?_
        refine r_getr (b2 := 3) X w lyC_0 rfl inT8 2 rfl rfl (by decide) rfl tw_314 dX8_current_80 ?_
        refine r_getr (b2 := 5) X w lyC_3 rfl inT4 1 rfl rfl (by decide) rfl tw_103 dX8_current_83 ?_
        refine lv_iload_n X.1 X.2.1 dX8_current_86 rfl (lv_at hl 1 rfl) ?_
        obtain ⟨hi8, h⟩ := gd_some h
        refine r_iald X w lyC_5 hi8 dX8_current_87 ?_
        obtain ⟨rfl, rfl⟩ := Prod.mk.inj (Option.some.inj h)
        exact r_iret X M w dX8_current_88
      · rw [if_pos c7] at h
        refine lv_aload_n X.1 X.2.1 dX8_current_43 rfl (lv_at hl 0 rfl) ?_
        refine r_getr (b2 := 3) X w lyC_0 rfl inT8 2 rfl rfl (by decide) rfl tw_314 dX8_current_44 ?_
        obtain ⟨r9, hr9, h⟩ := bd_some h
        refine r_cVi (As := []) (rest := []) X w lyC_3 rfl (kX4_leastFreeTag (cap := cap) l D ca ad m5   hr9) (gTV tw_406 tw_407 tw_408 tw_66 tw_409) hdX4_leastFreeTag (by decide) rfl hl.1 rfl (Nat.le_of_ble_eq_true rfl) dX8_current_47 ⟨Nat.zero_le _, Nat.zero_le _⟩ (fun H locs w => ?_)
        refine lv_istore_n (lv' := [(2, .int r9), (0, .ref (ad 0)), (1, .int a1)]) X.1 X.2.1 dX8_current_50 rfl hl (by decide) rfl (fun ls hl => ?_)
        refine lv_iload_n X.1 X.2.1 dX8_current_51 rfl (lv_at hl 0 rfl) ?_
        refine lv_iconst (v := (-1 : Int32)) X.1 X.2.1 dX8_current_52 (by decide) ?_
        refine lv_icmp_ne (tgt := 69) X.1 X.2.1 dX8_current_53 (by decide) (fun c10 => ?_) (fun c10 => ?_)
        · rw [if_neg c10] at h
          exact wX8_current_b69 X M w (lv_sub hl [1, 2, 0] rfl) h
        · rw [if_pos c10] at h
          refine lv_aload_n X.1 X.2.1 dX8_current_56 rfl (lv_at hl 1 rfl) ?_
          refine r_getr (b2 := 3) X w lyC_0 rfl inT8 2 rfl rfl (by decide) rfl tw_314 dX8_current_57 ?_
          obtain ⟨m12, r11, hr11, h⟩ := bw_some h
          refine r_cVi (As := []) (rest := []) X w lyC_3 rfl (kX4_takeOldestTag (cap := cap) l D ca ad m5   hr11) (gTV tw_414 tw_415 tw_416 tw_66 tw_417) hdX4_takeOldestTag (by decide) rfl hl.1 rfl (Nat.le_of_ble_eq_true rfl) dX8_current_60 ⟨Nat.zero_le _, Nat.zero_le _⟩ (fun H locs w => ?_)
          refine lv_istore_n (lv' := [(2, .int r11), (0, .ref (ad 0)), (1, .int a1)]) X.1 X.2.1 dX8_current_63 rfl hl (by decide) rfl (fun ls hl => ?_)
          refine lv_aload_n X.1 X.2.1 dX8_current_64 rfl (lv_at hl 1 rfl) ?_
          refine lv_iload_n X.1 X.2.1 dX8_current_65 rfl (lv_at hl 0 rfl) ?_
          obtain ⟨m14, r13, hr13, h⟩ := bw_some h
          refine r_cVv (As := [.int r11]) (rest := []) X w lyC_0 rfl (kX8_forgetTag (cap := cap) l D ca ad m12 r11  hr13) (gTV tw_418 tw_420 tw_0 tw_65 tw_421) hdX8_forgetTag (by decide) rfl hl.1 rfl (Nat.le_of_ble_eq_true rfl) dX8_current_66 ⟨Nat.zero_le _, Nat.zero_le _⟩ (fun H locs w => ?_)
          exact wX8_current_b69 X M w (lv_sub hl [1, 2, 0] rfl) h
    · rw [if_pos c3] at h
      refine lv_iconst (v := (-1 : Int32)) X.1 X.2.1 dX8_current_20 (by decide) ?_
      obtain ⟨rfl, rfl⟩ := Prod.mk.inj (Option.some.inj h)
      exact r_iret X M w dX8_current_21
/-! WalkHouse.isAddress(I)Z (T) -/
theorem hdX8_isAddress : yX8_isAddress.cls ≠ "java/lang/invoke/MethodHandle" ∧ yX8_isAddress.cls ≠ "java/lang/invoke/VarHandle" ∧ (parseMethodDescriptor yX8_isAddress.desc).map (fun d => d.parameters.length) = some 1 := by decide +kernel
def fX8_isAddress (a0 : Int32) : Int32 :=
  if a0 < 0 then (0 : Int32) else if (512 : Int32) ≤ a0 then (0 : Int32) else (1 : Int32)
set_option maxRecDepth 100000 in
set_option maxHeartbeats 4000000 in
theorem kX8_isAddress {cap : Nat} (l : Launch) (D : va_G) (ca : Nat → ClassId) (ad : Nat → Nat) (mem : Mm) (a0 : Int32)  {r : Int32} (h : fX8_isAddress a0 = r) : CtI l yX8_isAddress cX8_isAddress 1 (some .boolean) (rmx 0 0) D ca ad (layC cap) mem [.int a0] mem r := by
  refine CtI.of (by decide) (Nat.le_of_ble_eq_true rfl) ?_
  intro p e s m args below meth c H locs ls X M w hl
  replace X : CallFix p m c cX8_isAddress 1 s args TT RX8 := X
  replace hl : lv_has ls 1 [(0, .int a0)] := hl
  unfold fX8_isAddress at h
  refine lv_iload_n X.1 X.2.1 dX8_isAddress_0 rfl (lv_at hl 0 rfl) ?_
  refine lv_if_lt (tgt := 15) X.1 X.2.1 dX8_isAddress_1 (by decide) (fun c1 => ?_) (fun c1 => ?_)
  · rw [if_pos c1] at h
    refine lv_iconst (v := (0 : Int32)) X.1 X.2.1 dX8_isAddress_15 (by decide) ?_
    subst h
    exact r_zret X M w (by decide) dX8_isAddress_16
  · rw [if_neg c1] at h
    refine lv_iload_n X.1 X.2.1 dX8_isAddress_4 rfl (lv_at hl 0 rfl) ?_
    refine lv_sipush (v := (512 : Int32)) X.1 X.2.1 dX8_isAddress_5 (by decide) ?_
    refine lv_icmp_ge (tgt := 15) X.1 X.2.1 dX8_isAddress_8 (by decide) (fun c2 => ?_) (fun c2 => ?_)
    · rw [if_pos c2] at h
      refine lv_iconst (v := (0 : Int32)) X.1 X.2.1 dX8_isAddress_15 (by decide) ?_
      subst h
      exact r_zret X M w (by decide) dX8_isAddress_16
    · rw [if_neg c2] at h
      refine lv_iconst (v := (1 : Int32)) X.1 X.2.1 dX8_isAddress_11 (by decide) ?_
      refine lv_goto (tgt := 16) X.1 X.2.1 dX8_isAddress_12 (by decide) ?_
      subst h
      exact r_zret X M w (by decide) dX8_isAddress_16
theorem zX8_isAddress (a0 : Int32) : fX8_isAddress a0 &&& 1 = fX8_isAddress a0 := by
  unfold fX8_isAddress; (repeat' split) <;> (repeat' split) <;> first | decide
/-! WalkHouse.mayAccess(II)Z (R) -/
theorem hdX8_mayAccess : yX8_mayAccess.cls = RX8 ∧ yX8_mayAccess.cls ≠ "java/lang/invoke/MethodHandle" ∧ yX8_mayAccess.cls ≠ "java/lang/invoke/VarHandle" ∧ (parseMethodDescriptor yX8_mayAccess.desc).map (fun d => d.parameters.length) = some 2 := by decide +kernel
def fX8_mayAccess (mem : Mm) (a1 : Int32) (a2 : Int32) : Option Int32 :=
  if (fX8_isAddress a1) = 0 then some (0 : Int32) else if a2 < 0 then some (0 : Int32) else if (7 : Int32) < a2 then some (0 : Int32) else if (mem 3 4) = (-1 : Int32) then some (0 : Int32) else some (1 : Int32)
set_option maxRecDepth 100000 in
set_option maxHeartbeats 4000000 in
theorem kX8_mayAccess {cap : Nat} (l : Launch) (D : va_G) (ca : Nat → ClassId) (ad : Nat → Nat) (mem : Mm) (a1 : Int32) (a2 : Int32)  {r : Int32} (h : fX8_mayAccess mem a1 a2 = some r) : CtI l yX8_mayAccess cX8_mayAccess 3 (some .boolean) (rmx 1 20) D ca ad (layC cap) mem [.ref (ad 0), .int a1, .int a2] mem r := by
  refine CtI.of (by decide) (Nat.le_of_ble_eq_true rfl) ?_
  intro p e s m args below meth c H locs ls X M w hl
  replace X : CallFix p m c cX8_mayAccess 3 s args TT RX8 := X
  replace hl : lv_has ls 3 [(0, .ref (ad 0)), (1, .int a1), (2, .int a2)] := hl
  unfold fX8_mayAccess at h
  refine lv_iload_n X.1 X.2.1 dX8_mayAccess_0 rfl (lv_at hl 1 rfl) ?_
  refine r_cSi (As := [.int a1]) (rest := []) X w (kX8_isAddress (cap := cap) l D ca ad mem a1  rfl) (gTS tw_446 tw_447 tw_65 tw_448) hdX8_isAddress (by decide) rfl hl.1 rfl (Nat.le_of_ble_eq_true rfl) dX8_mayAccess_1 ⟨Nat.zero_le _, Nat.zero_le _⟩ (fun H locs w => ?_)
  refine lv_if_eq (tgt := 32) X.1 X.2.1 dX8_mayAccess_4 (by decide) (fun c1 => ?_) (fun c1 => ?_)
  · rw [if_pos c1] at h
    refine lv_iconst (v := (0 : Int32)) X.1 X.2.1 dX8_mayAccess_32 (by decide) ?_
    obtain rfl := Option.some.inj h
    exact r_zret X M w (by decide) dX8_mayAccess_33
  · rw [if_neg c1] at h
    refine lv_iload_n X.1 X.2.1 dX8_mayAccess_7 rfl (lv_at hl 2 rfl) ?_
    refine lv_if_lt (tgt := 32) X.1 X.2.1 dX8_mayAccess_8 (by decide) (fun c2 => ?_) (fun c2 => ?_)
    · rw [if_pos c2] at h
      refine lv_iconst (v := (0 : Int32)) X.1 X.2.1 dX8_mayAccess_32 (by decide) ?_
      obtain rfl := Option.some.inj h
      exact r_zret X M w (by decide) dX8_mayAccess_33
    · rw [if_neg c2] at h
      refine lv_iload_n X.1 X.2.1 dX8_mayAccess_11 rfl (lv_at hl 2 rfl) ?_
      refine lv_bipush (v := (7 : Int32)) X.1 X.2.1 dX8_mayAccess_12 (by decide) ?_
      refine lv_icmp_gt (tgt := 32) X.1 X.2.1 dX8_mayAccess_14 (by decide) (fun c3 => ?_) (fun c3 => ?_)
      · rw [if_pos c3] at h
        refine lv_iconst (v := (0 : Int32)) X.1 X.2.1 dX8_mayAccess_32 (by decide) ?_
        obtain rfl := Option.some.inj h
        exact r_zret X M w (by decide) dX8_mayAccess_33
      · rw [if_neg c3] at h
        refine lv_aload_n X.1 X.2.1 dX8_mayAccess_17 rfl (lv_at hl 0 rfl) ?_
        refine r_getr (b2 := 3) X w lyC_0 rfl inT8 2 rfl rfl (by decide) rfl tw_314 dX8_mayAccess_18 ?_
        refine r_get X w lyC_3 rfl inT4 4 rfl (by decide) rfl tw_107 dX8_mayAccess_21 ?_
        refine lv_iconst (v := (-1 : Int32)) X.1 X.2.1 dX8_mayAccess_24 (by decide) ?_
        refine lv_icmp_eq (tgt := 32) X.1 X.2.1 dX8_mayAccess_25 (by decide) (fun c4 => ?_) (fun c4 => ?_)
        · rw [if_pos c4] at h
          refine lv_iconst (v := (0 : Int32)) X.1 X.2.1 dX8_mayAccess_32 (by decide) ?_
          obtain rfl := Option.some.inj h
          exact r_zret X M w (by decide) dX8_mayAccess_33
        · rw [if_neg c4] at h
          refine lv_iconst (v := (1 : Int32)) X.1 X.2.1 dX8_mayAccess_28 (by decide) ?_
          refine lv_goto (tgt := 33) X.1 X.2.1 dX8_mayAccess_29 (by decide) ?_
          obtain rfl := Option.some.inj h
          exact r_zret X M w (by decide) dX8_mayAccess_33
/-! WalkHouse.fits(LWalkHouse$Place;I)Z (R) -/
theorem hdX8_fits : yX8_fits.cls = RX8 ∧ yX8_fits.cls ≠ "java/lang/invoke/MethodHandle" ∧ yX8_fits.cls ≠ "java/lang/invoke/VarHandle" ∧ (parseMethodDescriptor yX8_fits.desc).map (fun d => d.parameters.length) = some 2 := by decide +kernel
def fX8_fits (mem : Mm) (a1 : Nat) (a2 : Int32) : Option Int32 :=
  bd (fX3_has mem a1 a2) (fun r1 => if r1 = 0 then some (0 : Int32) else bd (fX4_tagNow mem) (fun r3 => if (mem a1 1) = r3 then some (1 : Int32) else bd (fX3_isGlobal mem a1) (fun r5 => if r5 = 0 then some (0 : Int32) else some (1 : Int32))))
set_option maxRecDepth 100000 in
set_option maxHeartbeats 4000000 in
theorem kX8_fits {cap : Nat} (l : Launch) (D : va_G) (ca : Nat → ClassId) (ad : Nat → Nat) (mem : Mm) (a1 : Nat) (a2 : Int32) (h1 : isPl a1) {r : Int32} (h : fX8_fits mem a1 a2 = some r) : CtI l yX8_fits cX8_fits 3 (some .boolean) (rmx 4 83) D ca ad (layC cap) mem [.ref (ad 0), .ref (ad a1), .int a2] mem r := by
  refine CtI.of (by decide) (Nat.le_of_ble_eq_true rfl) ?_
  intro p e s m args below meth c H locs ls X M w hl
  replace X : CallFix p m c cX8_fits 3 s args TT RX8 := X
  replace hl : lv_has ls 3 [(0, .ref (ad 0)), (1, .ref (ad a1)), (2, .int a2)] := hl
  unfold fX8_fits at h
  refine lv_aload_n X.1 X.2.1 dX8_fits_0 rfl (lv_at hl 1 rfl) ?_
  refine lv_iload_n X.1 X.2.1 dX8_fits_1 rfl (lv_at hl 2 rfl) ?_
  obtain ⟨r1, hr1, h⟩ := bd_some h
  refine r_cVi (As := [.int a2]) (rest := []) X w (lyPl h1) rfl (kX3_has (cap := cap) l D ca ad mem a1 a2 h1 hr1) (gTV tw_457 tw_458 tw_459 tw_69 tw_460) hdX3_has (by decide) rfl hl.1 rfl (Nat.le_of_ble_eq_true rfl) dX8_fits_2 ⟨Nat.zero_le _, Nat.zero_le _⟩ (fun H locs w => ?_)
  refine lv_if_eq (tgt := 33) X.1 X.2.1 dX8_fits_5 (by decide) (fun c2 => ?_) (fun c2 => ?_)
  · rw [if_pos c2] at h
    refine lv_iconst (v := (0 : Int32)) X.1 X.2.1 dX8_fits_33 (by decide) ?_
    obtain rfl := Option.some.inj h
    exact r_zret X M w (by decide) dX8_fits_34
  · rw [if_neg c2] at h
    refine lv_aload_n X.1 X.2.1 dX8_fits_8 rfl (lv_at hl 1 rfl) ?_
    refine r_get X w (lyPl h1) rfl inT3 1 rfl (by decide) rfl tw_138 dX8_fits_9 ?_
    refine lv_aload_n X.1 X.2.1 dX8_fits_12 rfl (lv_at hl 0 rfl) ?_
    refine r_getr (b2 := 3) X w lyC_0 rfl inT8 2 rfl rfl (by decide) rfl tw_314 dX8_fits_13 ?_
    obtain ⟨r3, hr3, h⟩ := bd_some h
    refine r_cVi (As := []) (rest := [.int (mem a1 1)]) X w lyC_3 rfl (kX4_tagNow (cap := cap) l D ca ad mem   hr3) (gTV tw_470 tw_471 tw_472 tw_66 tw_473) hdX4_tagNow (by decide) rfl hl.1 rfl (Nat.le_of_ble_eq_true rfl) dX8_fits_16 ⟨Nat.zero_le _, Nat.zero_le _⟩ (fun H locs w => ?_)
    refine lv_icmp_eq (tgt := 29) X.1 X.2.1 dX8_fits_19 (by decide) (fun c4 => ?_) (fun c4 => ?_)
    · rw [if_pos c4] at h
      refine lv_iconst (v := (1 : Int32)) X.1 X.2.1 dX8_fits_29 (by decide) ?_
      refine lv_goto (tgt := 34) X.1 X.2.1 dX8_fits_30 (by decide) ?_
      obtain rfl := Option.some.inj h
      exact r_zret X M w (by decide) dX8_fits_34
    · rw [if_neg c4] at h
      refine lv_aload_n X.1 X.2.1 dX8_fits_22 rfl (lv_at hl 1 rfl) ?_
      obtain ⟨r5, hr5, h⟩ := bd_some h
      refine r_cVi (As := []) (rest := []) X w (lyPl h1) rfl (kX3_isGlobal (cap := cap) l D ca ad mem a1 h1 hr5) (gTV tw_474 tw_435 tw_436 tw_69 tw_437) hdX3_isGlobal (by decide) rfl hl.1 rfl (Nat.le_of_ble_eq_true rfl) dX8_fits_23 ⟨Nat.zero_le _, Nat.zero_le _⟩ (fun H locs w => ?_)
      refine lv_if_eq (tgt := 33) X.1 X.2.1 dX8_fits_26 (by decide) (fun c6 => ?_) (fun c6 => ?_)
      · rw [if_pos c6] at h
        refine lv_iconst (v := (0 : Int32)) X.1 X.2.1 dX8_fits_33 (by decide) ?_
        obtain rfl := Option.some.inj h
        exact r_zret X M w (by decide) dX8_fits_34
      · rw [if_neg c6] at h
        refine lv_iconst (v := (1 : Int32)) X.1 X.2.1 dX8_fits_29 (by decide) ?_
        refine lv_goto (tgt := 34) X.1 X.2.1 dX8_fits_30 (by decide) ?_
        obtain rfl := Option.some.inj h
        exact r_zret X M w (by decide) dX8_fits_34
