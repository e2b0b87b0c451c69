/-! WalkHouse.latestFit(II)LWalkHouse$Place; (R) -/
theorem hdX8_latestFit : yX8_latestFit.cls = RX8 ∧ yX8_latestFit.cls ≠ "java/lang/invoke/MethodHandle" ∧ yX8_latestFit.cls ≠ "java/lang/invoke/VarHandle" ∧ (parseMethodDescriptor yX8_latestFit.desc).map (fun d => d.parameters.length) = some 2 := by decide +kernel
def fX8_latestFit_b5_s  (k5 : Mm → Int32 → Int32 → (Option Nat) → Int32 → Option (Option Nat)) (mem : Mm) (x1 : Int32) (x2 : Int32) (x3 : Option Nat) (x4 : Int32) : Option (Option Nat) :=
  oc x3 (if (6 : Int32) ≤ x4 then some none else gd x4 6 (lkN (8 + 1 + 1 * x4.toNatClampNeg) (fun b4 => bd (fX8_fits mem b4 x1) (fun r5 => if r5 = 0 then k5 mem x1 x2 none (x4 + (1 : Int32)) else bd (fX3_serves mem b4 x2) (fun r7 => if r7 = 0 then k5 mem x1 x2 none (x4 + (1 : Int32)) else k5 mem x1 x2 (some b4) (x4 + (1 : Int32))))))) (fun b1 => if (6 : Int32) ≤ x4 then some (some b1) else gd x4 6 (lkN (8 + 1 + 1 * x4.toNatClampNeg) (fun b11 => bd (fX8_fits mem b11 x1) (fun r12 => if r12 = 0 then k5 mem x1 x2 (some b1) (x4 + (1 : Int32)) else bd (fX3_serves mem b11 x2) (fun r14 => if r14 = 0 then k5 mem x1 x2 (some b1) (x4 + (1 : Int32)) else if (mem b11 7) ≤ (mem b1 7) then k5 mem x1 x2 (some b1) (x4 + (1 : Int32)) else k5 mem x1 x2 (some b11) (x4 + (1 : Int32)))))))
def fX8_latestFit_b5  : Nat → Mm → Int32 → Int32 → (Option Nat) → Int32 → Option (Option Nat)
  | 0 => fun _ _ _ _ _ => none
  | n + 1 => fX8_latestFit_b5_s  (fX8_latestFit_b5  n)
set_option maxRecDepth 100000 in
set_option maxHeartbeats 4000000 in
theorem wX8_latestFit_b5_s {p : Program} {l : Launch} {e : Env} {s : State} {m : MethodId} {args : Array Value} {below : List Frame} {meth : Method} {c : Code} {D : va_G} {ca : Nat → ClassId} {ad : Nat → Nat} {cap : Nat} {H : Heap} {locs : List Loc} {ls : Array Slot} {mem : Mm} {x1 : Int32} {x2 : Int32} {x3 : Option Nat} {x4 : Int32}  {k5 : Mm → Int32 → Int32 → (Option Nat) → Int32 → Option (Option Nat)} {r : Option Nat} (X : CallFix p m c cX8_latestFit 6 s args TT RX8) (M : Mt meth (some (.object "WalkHouse$Place")))  (hk5 : ∀ (x1 : Int32) (x2 : Int32) (x3 : Option Nat) (x4 : Int32) (H : Heap) (locs : List Loc) (ls : Array Slot) , Wd D ca ad (layC cap) (AA ad (layC cap).length) s.heap s mem H locs → lv_has ls 6 [(0, .ref (ad 0)), (1, .int x1), (2, .int x2), (3, va_rf (Option.map ad x3)), (4, .int x4)] → k5 mem x1 x2 x3 x4 = some r → W p l e (rmx 5 105) s m args below meth c H locs 0 0 (EndQ D ca ad (layC cap) mem r below args s) (F0 m 5 ls []))  (w : Wd D ca ad (layC cap) (AA ad (layC cap).length) s.heap s mem H locs) (hl : lv_has ls 6 [(0, .ref (ad 0)), (1, .int x1), (2, .int x2), (3, va_rf (Option.map ad x3)), (4, .int x4)]) (h : fX8_latestFit_b5_s  k5 mem x1 x2 x3 x4 = some r) : W p l e (rmx 5 105) s m args below meth c H locs 0 0 (EndQ D ca ad (layC cap) mem r below args s) (F0 m 5 ls []) := by
  unfold fX8_latestFit_b5_s at h
  rcases x3 with _ | b1
  · have h := oc_n h
    refine lv_iload X.1 X.2.1 dX8_latestFit_5 (lv_at hl 4 rfl) ?_
    refine lv_bipush (v := (6 : Int32)) X.1 X.2.1 dX8_latestFit_7 (by decide) ?_
    refine lv_icmp_ge (tgt := 68) X.1 X.2.1 dX8_latestFit_9 (by decide) (fun c2 => ?_) (fun c2 => ?_)
    · rw [if_pos c2] at h
      refine lv_aload_nN X.1 X.2.1 dX8_latestFit_68 rfl (lv_at hl 3 rfl) ?_
      obtain rfl := Option.some.inj h
      exact r_aret (r := none) X M w dX8_latestFit_69
    · rw [if_neg c2] at h
      refine lv_aload_n X.1 X.2.1 dX8_latestFit_12 rfl (lv_at hl 0 rfl) ?_
      refine r_getr (b2 := 7) X w lyC_0 rfl inT8 3 rfl rfl (by decide) rfl tw_315 dX8_latestFit_13 ?_
      refine r_getr (b2 := 8) X w lyC_7 rfl inT5 0 rfl rfl (by decide) rfl tw_171 dX8_latestFit_16 ?_
      refine lv_iload X.1 X.2.1 dX8_latestFit_19 (lv_at hl 4 rfl) ?_
      obtain ⟨hi3, h⟩ := gd_some h
      obtain ⟨b4, eb4, h⟩ := lkN_some h
      refine r_aald X w (t := 2) lyC_8 rfl hi3 eb4 dX8_latestFit_21 ?_
      have hb4 : isPl b4 := isPl_of isSt7 hi3 eb4
      refine lv_astore (lv' := [(5, .ref (ad b4)), (0, .ref (ad 0)), (1, .int x1), (2, .int x2), (3, .null), (4, .int x4)]) X.1 X.2.1 dX8_latestFit_22 hl (by decide) rfl (fun ls hl => ?_)
      refine lv_aload_n X.1 X.2.1 dX8_latestFit_24 rfl (lv_at hl 1 rfl) ?_
      refine lv_aload X.1 X.2.1 dX8_latestFit_25 (lv_at hl 0 rfl) ?_
      refine lv_iload_n X.1 X.2.1 dX8_latestFit_27 rfl (lv_at hl 2 rfl) ?_
      obtain ⟨r5, hr5, h⟩ := bd_some h
      refine r_cVi (As := [.ref (ad b4), .int x1]) (rest := []) X w lyC_0 rfl (kX8_fits (cap := cap) l D ca ad mem b4 x1 hb4 hr5) (gTV tw_453 tw_455 tw_4 tw_65 tw_456) hdX8_fits (by decide) rfl hl.1 rfl (Nat.le_of_ble_eq_true rfl) dX8_latestFit_28 ⟨Nat.zero_le _, Nat.zero_le _⟩ (fun H locs w => ?_)
      refine lv_if_eq (tgt := 62) X.1 X.2.1 dX8_latestFit_31 (by decide) (fun c6 => ?_) (fun c6 => ?_)
      · rw [if_pos c6] at h
        refine lv_iinc (v := (x4 + (1 : Int32))) (lv' := [(4, .int (x4 + (1 : Int32))), (5, .ref (ad b4)), (0, .ref (ad 0)), (1, .int x1), (2, .int x2), (3, .null)]) X.1 X.2.1 dX8_latestFit_62 hl (k := 5) rfl rfl (by decide) rfl (fun ls hl => ?_)
        refine lv_goto (tgt := 5) X.1 X.2.1 dX8_latestFit_65 (by decide) ?_
        exact hk5 _ _ _ _ H locs ls w (lv_sub hl [2, 3, 4, 5, 0] rfl) h
      · rw [if_neg c6] at h
        refine lv_aload X.1 X.2.1 dX8_latestFit_34 (lv_at hl 0 rfl) ?_
        refine lv_iload_n X.1 X.2.1 dX8_latestFit_36 rfl (lv_at hl 3 rfl) ?_
        obtain ⟨r7, hr7, h⟩ := bd_some h
        refine r_cVi (As := [.int x2]) (rest := []) X w (lyPl hb4) rfl (kX3_serves (cap := cap) l D ca ad mem b4 x2 hb4 hr7) (gTV tw_475 tw_476 tw_477 tw_69 tw_478) hdX3_serves (by decide) rfl hl.1 rfl (Nat.le_of_ble_eq_true rfl) dX8_latestFit_37 ⟨Nat.zero_le _, Nat.zero_le _⟩ (fun H locs w => ?_)
        refine lv_if_eq (tgt := 62) X.1 X.2.1 dX8_latestFit_40 (by decide) (fun c8 => ?_) (fun c8 => ?_)
        · rw [if_pos c8] at h
          refine lv_iinc (v := (x4 + (1 : Int32))) (lv' := [(4, .int (x4 + (1 : Int32))), (5, .ref (ad b4)), (0, .ref (ad 0)), (1, .int x1), (2, .int x2), (3, .null)]) X.1 X.2.1 dX8_latestFit_62 hl (k := 5) rfl rfl (by decide) rfl (fun ls hl => ?_)
          refine lv_goto (tgt := 5) X.1 X.2.1 dX8_latestFit_65 (by decide) ?_
          exact hk5 _ _ _ _ H locs ls w (lv_sub hl [2, 3, 4, 5, 0] rfl) h
        · rw [if_neg c8] at h
          refine lv_aload_nN X.1 X.2.1 dX8_latestFit_43 rfl (lv_at hl 4 rfl) ?_
          refine lv_ifnullN (tgt := 59) X.1 X.2.1 dX8_latestFit_44 (by decide) ?_
          refine lv_aload X.1 X.2.1 dX8_latestFit_59 (lv_at hl 0 rfl) ?_
          refine lv_astore_n (lv' := [(3, .ref (ad b4)), (5, .ref (ad b4)), (0, .ref (ad 0)), (1, .int x1), (2, .int x2), (4, .int x4)]) X.1 X.2.1 dX8_latestFit_61 rfl hl (by decide) rfl (fun ls hl => ?_)
          refine lv_iinc (v := (x4 + (1 : Int32))) (lv' := [(4, .int (x4 + (1 : Int32))), (3, .ref (ad b4)), (5, .ref (ad b4)), (0, .ref (ad 0)), (1, .int x1), (2, .int x2)]) X.1 X.2.1 dX8_latestFit_62 hl (k := 5) rfl rfl (by decide) rfl (fun ls hl => ?_)
          refine lv_goto (tgt := 5) X.1 X.2.1 dX8_latestFit_65 (by decide) ?_
          exact hk5 _ _ _ _ H locs ls w (lv_sub hl [3, 4, 5, 1, 0] rfl) h
  · obtain ⟨hb1, h⟩ := oc_s h
    refine lv_iload X.1 X.2.1 dX8_latestFit_5 (lv_at hl 4 rfl) ?_
    refine lv_bipush (v := (6 : Int32)) X.1 X.2.1 dX8_latestFit_7 (by decide) ?_
    refine lv_icmp_ge (tgt := 68) X.1 X.2.1 dX8_latestFit_9 (by decide) (fun c9 => ?_) (fun c9 => ?_)
    · rw [if_pos c9] at h
      refine lv_aload_n X.1 X.2.1 dX8_latestFit_68 rfl (lv_at hl 3 rfl) ?_
      obtain rfl := Option.some.inj h
      exact r_aret (r := (some b1)) X M w dX8_latestFit_69
    · rw [if_neg c9] at h
      refine lv_aload_n X.1 X.2.1 dX8_latestFit_12 rfl (lv_at hl 0 rfl) ?_
      refine r_getr (b2 := 7) X w lyC_0 rfl inT8 3 rfl rfl (by decide) rfl tw_315 dX8_latestFit_13 ?_
      refine r_getr (b2 := 8) X w lyC_7 rfl inT5 0 rfl rfl (by decide) rfl tw_171 dX8_latestFit_16 ?_
      refine lv_iload X.1 X.2.1 dX8_latestFit_19 (lv_at hl 4 rfl) ?_
      obtain ⟨hi10, h⟩ := gd_some h
      obtain ⟨b11, eb11, h⟩ := lkN_some h
      refine r_aald X w (t := 2) lyC_8 rfl hi10 eb11 dX8_latestFit_21 ?_
      have hb11 : isPl b11 := isPl_of isSt7 hi10 eb11
      refine lv_astore (lv' := [(5, .ref (ad b11)), (0, .ref (ad 0)), (1, .int x1), (2, .int x2), (3, .ref (ad b1)), (4, .int x4)]) X.1 X.2.1 dX8_latestFit_22 hl (by decide) rfl (fun ls hl => ?_)
      refine lv_aload_n X.1 X.2.1 dX8_latestFit_24 rfl (lv_at hl 1 rfl) ?_
      refine lv_aload X.1 X.2.1 dX8_latestFit_25 (lv_at hl 0 rfl) ?_
      refine lv_iload_n X.1 X.2.1 dX8_latestFit_27 rfl (lv_at hl 2 rfl) ?_
      obtain ⟨r12, hr12, h⟩ := bd_some h
      refine r_cVi (As := [.ref (ad b11), .int x1]) (rest := []) X w lyC_0 rfl (kX8_fits (cap := cap) l D ca ad mem b11 x1 hb11 hr12) (gTV tw_453 tw_455 tw_4 tw_65 tw_456) hdX8_fits (by decide) rfl hl.1 rfl (Nat.le_of_ble_eq_true rfl) dX8_latestFit_28 ⟨Nat.zero_le _, Nat.zero_le _⟩ (fun H locs w => ?_)
      refine lv_if_eq (tgt := 62) X.1 X.2.1 dX8_latestFit_31 (by decide) (fun c13 => ?_) (fun c13 => ?_)
      · rw [if_pos c13] at h
        refine lv_iinc (v := (x4 + (1 : Int32))) (lv' := [(4, .int (x4 + (1 : Int32))), (5, .ref (ad b11)), (0, .ref (ad 0)), (1, .int x1), (2, .int x2), (3, .ref (ad b1))]) X.1 X.2.1 dX8_latestFit_62 hl (k := 5) rfl rfl (by decide) rfl (fun ls hl => ?_)
        refine lv_goto (tgt := 5) X.1 X.2.1 dX8_latestFit_65 (by decide) ?_
        exact hk5 _ _ _ _ H locs ls w (lv_sub hl [2, 3, 4, 5, 0] rfl) h
      · rw [if_neg c13] at h
        refine lv_aload X.1 X.2.1 dX8_latestFit_34 (lv_at hl 0 rfl) ?_
        refine lv_iload_n X.1 X.2.1 dX8_latestFit_36 rfl (lv_at hl 3 rfl) ?_
        obtain ⟨r14, hr14, h⟩ := bd_some h
        refine r_cVi (As := [.int x2]) (rest := []) X w (lyPl hb11) rfl (kX3_serves (cap := cap) l D ca ad mem b11 x2 hb11 hr14) (gTV tw_475 tw_476 tw_477 tw_69 tw_478) hdX3_serves (by decide) rfl hl.1 rfl (Nat.le_of_ble_eq_true rfl) dX8_latestFit_37 ⟨Nat.zero_le _, Nat.zero_le _⟩ (fun H locs w => ?_)
        refine lv_if_eq (tgt := 62) X.1 X.2.1 dX8_latestFit_40 (by decide) (fun c15 => ?_) (fun c15 => ?_)
        · rw [if_pos c15] at h
          refine lv_iinc (v := (x4 + (1 : Int32))) (lv' := [(4, .int (x4 + (1 : Int32))), (5, .ref (ad b11)), (0, .ref (ad 0)), (1, .int x1), (2, .int x2), (3, .ref (ad b1))]) X.1 X.2.1 dX8_latestFit_62 hl (k := 5) rfl rfl (by decide) rfl (fun ls hl => ?_)
          refine lv_goto (tgt := 5) X.1 X.2.1 dX8_latestFit_65 (by decide) ?_
          exact hk5 _ _ _ _ H locs ls w (lv_sub hl [2, 3, 4, 5, 0] rfl) h
        · rw [if_neg c15] at h
          refine lv_aload_n X.1 X.2.1 dX8_latestFit_43 rfl (lv_at hl 4 rfl) ?_
          refine lv_ifnull X.1 X.2.1 dX8_latestFit_44 ?_
          refine lv_aload X.1 X.2.1 dX8_latestFit_47 (lv_at hl 0 rfl) ?_
          refine r_get X w (lyPl hb11) rfl inT3 7 rfl (by decide) rfl tw_152 dX8_latestFit_49 ?_
          refine lv_aload_n X.1 X.2.1 dX8_latestFit_52 rfl (lv_at hl 4 rfl) ?_
          refine r_get X w (lyPl hb1) rfl inT3 7 rfl (by decide) rfl tw_152 dX8_latestFit_53 ?_
          refine lv_icmp_le (tgt := 62) X.1 X.2.1 dX8_latestFit_56 (by decide) (fun c16 => ?_) (fun c16 => ?_)
          · rw [if_pos c16] at h
            refine lv_iinc (v := (x4 + (1 : Int32))) (lv' := [(4, .int (x4 + (1 : Int32))), (5, .ref (ad b11)), (0, .ref (ad 0)), (1, .int x1), (2, .int x2), (3, .ref (ad b1))]) X.1 X.2.1 dX8_latestFit_62 hl (k := 5) rfl rfl (by decide) rfl (fun ls hl => ?_)
            refine lv_goto (tgt := 5) X.1 X.2.1 dX8_latestFit_65 (by decide) ?_
            exact hk5 _ _ _ _ H locs ls w (lv_sub hl [2, 3, 4, 5, 0] rfl) h
          · rw [if_neg c16] at h
            refine lv_aload X.1 X.2.1 dX8_latestFit_59 (lv_at hl 0 rfl) ?_
            refine lv_astore_n (lv' := [(3, .ref (ad b11)), (5, .ref (ad b11)), (0, .ref (ad 0)), (1, .int x1), (2, .int x2), (4, .int x4)]) X.1 X.2.1 dX8_latestFit_61 rfl hl (by decide) rfl (fun ls hl => ?_)
            refine lv_iinc (v := (x4 + (1 : Int32))) (lv' := [(4, .int (x4 + (1 : Int32))), (3, .ref (ad b11)), (5, .ref (ad b11)), (0, .ref (ad 0)), (1, .int x1), (2, .int x2)]) X.1 X.2.1 dX8_latestFit_62 hl (k := 5) rfl rfl (by decide) rfl (fun ls hl => ?_)
            refine lv_goto (tgt := 5) X.1 X.2.1 dX8_latestFit_65 (by decide) ?_
            exact hk5 _ _ _ _ H locs ls w (lv_sub hl [3, 4, 5, 1, 0] rfl) h
set_option maxRecDepth 100000 in
set_option maxHeartbeats 4000000 in
theorem wX8_latestFit_b5 {p : Program} {l : Launch} {e : Env} {s : State} {m : MethodId} {args : Array Value} {below : List Frame} {meth : Method} {c : Code} {D : va_G} {ca : Nat → ClassId} {ad : Nat → Nat} {cap : Nat} {mem : Mm}  {r : Option Nat} (X : CallFix p m c cX8_latestFit 6 s args TT RX8) (M : Mt meth (some (.object "WalkHouse$Place")))  : ∀ (n : Nat) (x1 : Int32) (x2 : Int32) (x3 : Option Nat) (x4 : Int32) (H : Heap) (locs : List Loc) (ls : Array Slot)  (_ : Wd D ca ad (layC cap) (AA ad (layC cap).length) s.heap s mem H locs) (_ : lv_has ls 6 [(0, .ref (ad 0)), (1, .int x1), (2, .int x2), (3, va_rf (Option.map ad x3)), (4, .int x4)]) (_ : fX8_latestFit_b5  n mem x1 x2 x3 x4 = some r), W p l e (rmx 5 105) s m args below meth c H locs 0 0 (EndQ D ca ad (layC cap) mem r below args s) (F0 m 5 ls []) := by
  intro n
  induction n with
  | zero => intro x1 x2 x3 x4 H locs ls  w hl h; exact (nofun : (none : Option (Option Nat)) = _ → _) h
  | succ n ih => intro x1 x2 x3 x4 H locs ls  w hl h; exact wX8_latestFit_b5_s X M  ih  w hl h
def fX8_latestFit (mem : Mm) (a1 : Int32) (a2 : Int32) : Option (Option Nat) :=
  fX8_latestFit_b5 2000 mem a1 a2 none (0 : Int32)
set_option maxRecDepth 100000 in
set_option maxHeartbeats 4000000 in
theorem kX8_latestFit {cap : Nat} (l : Launch) (D : va_G) (ca : Nat → ClassId) (ad : Nat → Nat) (mem : Mm) (a1 : Int32) (a2 : Int32)  {r : Option Nat} (h : fX8_latestFit mem a1 a2 = some r) : CtQ l yX8_latestFit cX8_latestFit 6 (some (.object "WalkHouse$Place")) (rmx 5 105) D ca ad (layC cap) mem [.ref (ad 0), .int a1, .int a2] mem r := by
  refine CtQ.of (by decide) (Nat.le_of_ble_eq_true rfl) ?_
  intro p e s m args below meth c H locs ls X M w hl
  replace X : CallFix p m c cX8_latestFit 6 s args TT RX8 := X
  replace hl : lv_has ls 6 [(0, .ref (ad 0)), (1, .int a1), (2, .int a2)] := hl
  unfold fX8_latestFit at h
  refine lv_null X.1 X.2.1 dX8_latestFit_0 ?_
  refine lv_astore_nN (lv' := [(3, .null), (0, .ref (ad 0)), (1, .int a1), (2, .int a2)]) X.1 X.2.1 dX8_latestFit_1 rfl hl (by decide) rfl (fun ls hl => ?_)
  refine lv_iconst (v := (0 : Int32)) X.1 X.2.1 dX8_latestFit_2 (by decide) ?_
  refine lv_istore (lv' := [(4, .int (0 : Int32)), (3, .null), (0, .ref (ad 0)), (1, .int a1), (2, .int a2)]) X.1 X.2.1 dX8_latestFit_3 hl (by decide) rfl (fun ls hl => ?_)
  exact wX8_latestFit_b5 X M _ _ _ _ _ H locs ls w (lv_sub hl [2, 3, 4, 1, 0] rfl) h
/-! WalkHouse.clearFitsUsedLater(ILWalkHouse$Place;)V (W) -/
theorem hdX8_clearFitsUsedLater : yX8_clearFitsUsedLater.cls = RX8 ∧ yX8_clearFitsUsedLater.cls ≠ "java/lang/invoke/MethodHandle" ∧ yX8_clearFitsUsedLater.cls ≠ "java/lang/invoke/VarHandle" ∧ (parseMethodDescriptor yX8_clearFitsUsedLater.desc).map (fun d => d.parameters.length) = some 2 := by decide +kernel
def fX8_clearFitsUsedLater_b2_s  (k2 : Mm → Int32 → (Option Nat) → Int32 → Option (Mm × Unit)) (mem : Mm) (x1 : Int32) (x2 : Option Nat) (x3 : Int32) : Option (Mm × Unit) :=
  oc x2 (if (6 : Int32) ≤ x3 then some (mem, ()) else gd x3 6 (lkN (8 + 1 + 1 * x3.toNatClampNeg) (fun b4 => bd (fX8_fits mem b4 x1) (fun r5 => if r5 = 0 then k2 mem x1 none (x3 + (1 : Int32)) else wk mem b4 0 (0 : Int32) (fun m7 => k2 m7 x1 none (x3 + (1 : Int32))))))) (fun b1 => if (6 : Int32) ≤ x3 then some (mem, ()) else gd x3 6 (lkN (8 + 1 + 1 * x3.toNatClampNeg) (fun b10 => bd (fX8_fits mem b10 x1) (fun r11 => if r11 = 0 then k2 mem x1 (some b1) (x3 + (1 : Int32)) else if (mem b10 7) ≤ (mem b1 7) then k2 mem x1 (some b1) (x3 + (1 : Int32)) else wk mem b10 0 (0 : Int32) (fun m14 => k2 m14 x1 (some b1) (x3 + (1 : Int32)))))))
def fX8_clearFitsUsedLater_b2  : Nat → Mm → Int32 → (Option Nat) → Int32 → Option (Mm × Unit)
  | 0 => fun _ _ _ _ => none
  | n + 1 => fX8_clearFitsUsedLater_b2_s  (fX8_clearFitsUsedLater_b2  n)
set_option maxRecDepth 100000 in
set_option maxHeartbeats 4000000 in
theorem wX8_clearFitsUsedLater_b2_s {p : Program} {l : Launch} {e : Env} {s : State} {m : MethodId} {args : Array Value} {below : List Frame} {meth : Method} {c : Code} {D : va_G} {ca : Nat → ClassId} {ad : Nat → Nat} {cap : Nat} {H : Heap} {locs : List Loc} {ls : Array Slot} {mem : Mm} {x1 : Int32} {x2 : Option Nat} {x3 : Int32}  {k2 : Mm → Int32 → (Option Nat) → Int32 → Option (Mm × Unit)} {mem' : Mm} {r : Unit} (X : CallFix p m c cX8_clearFitsUsedLater 5 s args TT RX8) (M : Mt meth none)  (hk2 : ∀ (mem : Mm) (x1 : Int32) (x2 : Option Nat) (x3 : Int32) (H : Heap) (locs : List Loc) (ls : Array Slot) , Wd D ca ad (layC cap) (AA ad (layC cap).length) s.heap s mem H locs → lv_has ls 5 [(0, .ref (ad 0)), (1, .int x1), (2, va_rf (Option.map ad x2)), (3, .int x3)] → k2 mem x1 x2 x3 = some (mem', r) → W p l e (rmx 5 105) s m args below meth c H locs 0 0 (EndV D ca ad (layC cap) mem' below args s) (F0 m 2 ls []))  (w : Wd D ca ad (layC cap) (AA ad (layC cap).length) s.heap s mem H locs) (hl : lv_has ls 5 [(0, .ref (ad 0)), (1, .int x1), (2, va_rf (Option.map ad x2)), (3, .int x3)]) (h : fX8_clearFitsUsedLater_b2_s  k2 mem x1 x2 x3 = some (mem', r)) : W p l e (rmx 5 105) s m args below meth c H locs 0 0 (EndV D ca ad (layC cap) mem' below args s) (F0 m 2 ls []) := by
  unfold fX8_clearFitsUsedLater_b2_s at h
  rcases x2 with _ | b1
  · have h := oc_n h
    refine lv_iload_n X.1 X.2.1 dX8_clearFitsUsedLater_2 rfl (lv_at hl 3 rfl) ?_
    refine lv_bipush (v := (6 : Int32)) X.1 X.2.1 dX8_clearFitsUsedLater_3 (by decide) ?_
    refine lv_icmp_ge (tgt := 57) X.1 X.2.1 dX8_clearFitsUsedLater_5 (by decide) (fun c2 => ?_) (fun c2 => ?_)
    · rw [if_pos c2] at h
      obtain ⟨rfl, -⟩ := Prod.mk.inj (Option.some.inj h)
      exact r_vret X M w dX8_clearFitsUsedLater_57
    · rw [if_neg c2] at h
      refine lv_aload_n X.1 X.2.1 dX8_clearFitsUsedLater_8 rfl (lv_at hl 0 rfl) ?_
      refine r_getr (b2 := 7) X w lyC_0 rfl inT8 3 rfl rfl (by decide) rfl tw_315 dX8_clearFitsUsedLater_9 ?_
      refine r_getr (b2 := 8) X w lyC_7 rfl inT5 0 rfl rfl (by decide) rfl tw_171 dX8_clearFitsUsedLater_12 ?_
      refine lv_iload_n X.1 X.2.1 dX8_clearFitsUsedLater_15 rfl (lv_at hl 3 rfl) ?_
      obtain ⟨hi3, h⟩ := gd_some h
      obtain ⟨b4, eb4, h⟩ := lkN_some h
      refine r_aald X w (t := 2) lyC_8 rfl hi3 eb4 dX8_clearFitsUsedLater_16 ?_
      have hb4 : isPl b4 := isPl_of isSt7 hi3 eb4
      refine lv_astore (lv' := [(4, .ref (ad b4)), (0, .ref (ad 0)), (1, .int x1), (2, .null), (3, .int x3)]) X.1 X.2.1 dX8_clearFitsUsedLater_17 hl (by decide) rfl (fun ls hl => ?_)
      refine lv_aload_n X.1 X.2.1 dX8_clearFitsUsedLater_19 rfl (lv_at hl 1 rfl) ?_
      refine lv_aload X.1 X.2.1 dX8_clearFitsUsedLater_20 (lv_at hl 0 rfl) ?_
      refine lv_iload_n X.1 X.2.1 dX8_clearFitsUsedLater_22 rfl (lv_at hl 2 rfl) ?_
      obtain ⟨r5, hr5, h⟩ := bd_some h
      refine r_cVi (As := [.ref (ad b4), .int x1]) (rest := []) X w lyC_0 rfl (kX8_fits (cap := cap) l D ca ad mem b4 x1 hb4 hr5) (gTV tw_453 tw_455 tw_4 tw_65 tw_456) hdX8_fits (by decide) rfl hl.1 rfl (Nat.le_of_ble_eq_true rfl) dX8_clearFitsUsedLater_23 ⟨Nat.zero_le _, Nat.zero_le _⟩ (fun H locs w => ?_)
      refine lv_if_eq (tgt := 51) X.1 X.2.1 dX8_clearFitsUsedLater_26 (by decide) (fun c6 => ?_) (fun c6 => ?_)
      · rw [if_pos c6] at h
        refine lv_iinc (v := (x3 + (1 : Int32))) (lv' := [(3, .int (x3 + (1 : Int32))), (4, .ref (ad b4)), (0, .ref (ad 0)), (1, .int x1), (2, .null)]) X.1 X.2.1 dX8_clearFitsUsedLater_51 hl (k := 4) rfl rfl (by decide) rfl (fun ls hl => ?_)
        refine lv_goto (tgt := 2) X.1 X.2.1 dX8_clearFitsUsedLater_54 (by decide) ?_
        exact hk2 _ _ _ _ H locs ls w (lv_sub hl [2, 3, 4, 0] rfl) h
      · rw [if_neg c6] at h
        refine lv_aload_nN X.1 X.2.1 dX8_clearFitsUsedLater_29 rfl (lv_at hl 3 rfl) ?_
        refine lv_ifnullN (tgt := 45) X.1 X.2.1 dX8_clearFitsUsedLater_30 (by decide) ?_
        refine lv_aload X.1 X.2.1 dX8_clearFitsUsedLater_45 (lv_at hl 0 rfl) ?_
        refine lv_iconst (v := (0 : Int32)) X.1 X.2.1 dX8_clearFitsUsedLater_47 (by decide) ?_
        refine r_put X w (lyPl hb4) rfl inT3 tyX3 tyX3_ok nmX3 0 rfl (by decide) rfl rfl tw_135 rfl rfl dX8_clearFitsUsedLater_48 (fun H locs w => ?_)
        obtain ⟨m7, em7, h⟩ := wk_some h
        rw [em7] at w
        refine lv_iinc (v := (x3 + (1 : Int32))) (lv' := [(3, .int (x3 + (1 : Int32))), (4, .ref (ad b4)), (0, .ref (ad 0)), (1, .int x1), (2, .null)]) X.1 X.2.1 dX8_clearFitsUsedLater_51 hl (k := 4) rfl rfl (by decide) rfl (fun ls hl => ?_)
        refine lv_goto (tgt := 2) X.1 X.2.1 dX8_clearFitsUsedLater_54 (by decide) ?_
        exact hk2 _ _ _ _ H locs ls w (lv_sub hl [2, 3, 4, 0] rfl) h
  · obtain ⟨hb1, h⟩ := oc_s h
    refine lv_iload_n X.1 X.2.1 dX8_clearFitsUsedLater_2 rfl (lv_at hl 3 rfl) ?_
    refine lv_bipush (v := (6 : Int32)) X.1 X.2.1 dX8_clearFitsUsedLater_3 (by decide) ?_
    refine lv_icmp_ge (tgt := 57) X.1 X.2.1 dX8_clearFitsUsedLater_5 (by decide) (fun c8 => ?_) (fun c8 => ?_)
    · rw [if_pos c8] at h
      obtain ⟨rfl, -⟩ := Prod.mk.inj (Option.some.inj h)
      exact r_vret X M w dX8_clearFitsUsedLater_57
    · rw [if_neg c8] at h
      refine lv_aload_n X.1 X.2.1 dX8_clearFitsUsedLater_8 rfl (lv_at hl 0 rfl) ?_
      refine r_getr (b2 := 7) X w lyC_0 rfl inT8 3 rfl rfl (by decide) rfl tw_315 dX8_clearFitsUsedLater_9 ?_
      refine r_getr (b2 := 8) X w lyC_7 rfl inT5 0 rfl rfl (by decide) rfl tw_171 dX8_clearFitsUsedLater_12 ?_
      refine lv_iload_n X.1 X.2.1 dX8_clearFitsUsedLater_15 rfl (lv_at hl 3 rfl) ?_
      obtain ⟨hi9, h⟩ := gd_some h
      obtain ⟨b10, eb10, h⟩ := lkN_some h
      refine r_aald X w (t := 2) lyC_8 rfl hi9 eb10 dX8_clearFitsUsedLater_16 ?_
      have hb10 : isPl b10 := isPl_of isSt7 hi9 eb10
      refine lv_astore (lv' := [(4, .ref (ad b10)), (0, .ref (ad 0)), (1, .int x1), (2, .ref (ad b1)), (3, .int x3)]) X.1 X.2.1 dX8_clearFitsUsedLater_17 hl (by decide) rfl (fun ls hl => ?_)
      refine lv_aload_n X.1 X.2.1 dX8_clearFitsUsedLater_19 rfl (lv_at hl 1 rfl) ?_
      refine lv_aload X.1 X.2.1 dX8_clearFitsUsedLater_20 (lv_at hl 0 rfl) ?_
      refine lv_iload_n X.1 X.2.1 dX8_clearFitsUsedLater_22 rfl (lv_at hl 2 rfl) ?_
      obtain ⟨r11, hr11, h⟩ := bd_some h
      refine r_cVi (As := [.ref (ad b10), .int x1]) (rest := []) X w lyC_0 rfl (kX8_fits (cap := cap) l D ca ad mem b10 x1 hb10 hr11) (gTV tw_453 tw_455 tw_4 tw_65 tw_456) hdX8_fits (by decide) rfl hl.1 rfl (Nat.le_of_ble_eq_true rfl) dX8_clearFitsUsedLater_23 ⟨Nat.zero_le _, Nat.zero_le _⟩ (fun H locs w => ?_)
      refine lv_if_eq (tgt := 51) X.1 X.2.1 dX8_clearFitsUsedLater_26 (by decide) (fun c12 => ?_) (fun c12 => ?_)
      · rw [if_pos c12] at h
        refine lv_iinc (v := (x3 + (1 : Int32))) (lv' := [(3, .int (x3 + (1 : Int32))), (4, .ref (ad b10)), (0, .ref (ad 0)), (1, .int x1), (2, .ref (ad b1))]) X.1 X.2.1 dX8_clearFitsUsedLater_51 hl (k := 4) rfl rfl (by decide) rfl (fun ls hl => ?_)
        refine lv_goto (tgt := 2) X.1 X.2.1 dX8_clearFitsUsedLater_54 (by decide) ?_
        exact hk2 _ _ _ _ H locs ls w (lv_sub hl [2, 3, 4, 0] rfl) h
      · rw [if_neg c12] at h
        refine lv_aload_n X.1 X.2.1 dX8_clearFitsUsedLater_29 rfl (lv_at hl 3 rfl) ?_
        refine lv_ifnull X.1 X.2.1 dX8_clearFitsUsedLater_30 ?_
        refine lv_aload X.1 X.2.1 dX8_clearFitsUsedLater_33 (lv_at hl 0 rfl) ?_
        refine r_get X w (lyPl hb10) rfl inT3 7 rfl (by decide) rfl tw_152 dX8_clearFitsUsedLater_35 ?_
        refine lv_aload_n X.1 X.2.1 dX8_clearFitsUsedLater_38 rfl (lv_at hl 3 rfl) ?_
        refine r_get X w (lyPl hb1) rfl inT3 7 rfl (by decide) rfl tw_152 dX8_clearFitsUsedLater_39 ?_
        refine lv_icmp_le (tgt := 51) X.1 X.2.1 dX8_clearFitsUsedLater_42 (by decide) (fun c13 => ?_) (fun c13 => ?_)
        · rw [if_pos c13] at h
          refine lv_iinc (v := (x3 + (1 : Int32))) (lv' := [(3, .int (x3 + (1 : Int32))), (4, .ref (ad b10)), (0, .ref (ad 0)), (1, .int x1), (2, .ref (ad b1))]) X.1 X.2.1 dX8_clearFitsUsedLater_51 hl (k := 4) rfl rfl (by decide) rfl (fun ls hl => ?_)
          refine lv_goto (tgt := 2) X.1 X.2.1 dX8_clearFitsUsedLater_54 (by decide) ?_
          exact hk2 _ _ _ _ H locs ls w (lv_sub hl [2, 3, 4, 0] rfl) h
        · rw [if_neg c13] at h
          refine lv_aload X.1 X.2.1 dX8_clearFitsUsedLater_45 (lv_at hl 0 rfl) ?_
          refine lv_iconst (v := (0 : Int32)) X.1 X.2.1 dX8_clearFitsUsedLater_47 (by decide) ?_
          refine r_put X w (lyPl hb10) rfl inT3 tyX3 tyX3_ok nmX3 0 rfl (by decide) rfl rfl tw_135 rfl rfl dX8_clearFitsUsedLater_48 (fun H locs w => ?_)
          obtain ⟨m14, em14, h⟩ := wk_some h
          rw [em14] at w
          refine lv_iinc (v := (x3 + (1 : Int32))) (lv' := [(3, .int (x3 + (1 : Int32))), (4, .ref (ad b10)), (0, .ref (ad 0)), (1, .int x1), (2, .ref (ad b1))]) X.1 X.2.1 dX8_clearFitsUsedLater_51 hl (k := 4) rfl rfl (by decide) rfl (fun ls hl => ?_)
          refine lv_goto (tgt := 2) X.1 X.2.1 dX8_clearFitsUsedLater_54 (by decide) ?_
          exact hk2 _ _ _ _ H locs ls w (lv_sub hl [2, 3, 4, 0] rfl) h
set_option maxRecDepth 100000 in
set_option maxHeartbeats 4000000 in
theorem wX8_clearFitsUsedLater_b2 {p : Program} {l : Launch} {e : Env} {s : State} {m : MethodId} {args : Array Value} {below : List Frame} {meth : Method} {c : Code} {D : va_G} {ca : Nat → ClassId} {ad : Nat → Nat} {cap : Nat}  {mem' : Mm} {r : Unit} (X : CallFix p m c cX8_clearFitsUsedLater 5 s args TT RX8) (M : Mt meth none)  : ∀ (n : Nat) (mem : Mm) (x1 : Int32) (x2 : Option Nat) (x3 : Int32) (H : Heap) (locs : List Loc) (ls : Array Slot)  (_ : Wd D ca ad (layC cap) (AA ad (layC cap).length) s.heap s mem H locs) (_ : lv_has ls 5 [(0, .ref (ad 0)), (1, .int x1), (2, va_rf (Option.map ad x2)), (3, .int x3)]) (_ : fX8_clearFitsUsedLater_b2  n mem x1 x2 x3 = some (mem', r)), W p l e (rmx 5 105) s m args below meth c H locs 0 0 (EndV D ca ad (layC cap) mem' below args s) (F0 m 2 ls []) := by
  intro n
  induction n with
  | zero => intro mem x1 x2 x3 H locs ls  w hl h; exact (nofun : (none : Option (Mm × Unit)) = _ → _) h
  | succ n ih => intro mem x1 x2 x3 H locs ls  w hl h; exact wX8_clearFitsUsedLater_b2_s X M  ih  w hl h
def fX8_clearFitsUsedLater (mem : Mm) (a1 : Int32) (a2 : Option Nat) : Option (Mm × Unit) :=
  oc a2 (fX8_clearFitsUsedLater_b2 2000 mem a1 none (0 : Int32)) (fun b1 => fX8_clearFitsUsedLater_b2 2000 mem a1 (some b1) (0 : Int32))
set_option maxRecDepth 100000 in
set_option maxHeartbeats 4000000 in
theorem kX8_clearFitsUsedLater {cap : Nat} (l : Launch) (D : va_G) (ca : Nat → ClassId) (ad : Nat → Nat) (mem : Mm) (a1 : Int32) (a2 : Option Nat)  {mem' : Mm} {r : Unit} (h : fX8_clearFitsUsedLater mem a1 a2 = some (mem', r)) : CtV l yX8_clearFitsUsedLater cX8_clearFitsUsedLater 5 none (rmx 5 105) D ca ad (layC cap) mem [.ref (ad 0), .int a1, va_rf (Option.map ad a2)] mem' := by
  refine CtV.of (by decide) (by rcases a2 with _ | _ <;> exact Nat.le_of_ble_eq_true rfl) ?_
  intro p e s m args below meth c H locs ls X M w hl
  replace X : CallFix p m c cX8_clearFitsUsedLater 5 s args TT RX8 := X
  replace hl : lv_has ls 5 [(0, .ref (ad 0)), (1, .int a1), (2, va_rf (Option.map ad a2))] := hl
  unfold fX8_clearFitsUsedLater at h
  rcases a2 with _ | b1
  · have h := oc_n h
    refine lv_iconst (v := (0 : Int32)) X.1 X.2.1 dX8_clearFitsUsedLater_0 (by decide) ?_
    refine lv_istore_n (lv' := [(3, .int (0 : Int32)), (0, .ref (ad 0)), (1, .int a1), (2, .null)]) X.1 X.2.1 dX8_clearFitsUsedLater_1 rfl hl (by decide) rfl (fun ls hl => ?_)
    exact wX8_clearFitsUsedLater_b2 X M _ _ _ _ _ H locs ls w (lv_sub hl [1, 2, 3, 0] rfl) h
  · obtain ⟨hb1, h⟩ := oc_s h
    refine lv_iconst (v := (0 : Int32)) X.1 X.2.1 dX8_clearFitsUsedLater_0 (by decide) ?_
    refine lv_istore_n (lv' := [(3, .int (0 : Int32)), (0, .ref (ad 0)), (1, .int a1), (2, .ref (ad b1))]) X.1 X.2.1 dX8_clearFitsUsedLater_1 rfl hl (by decide) rfl (fun ls hl => ?_)
    exact wX8_clearFitsUsedLater_b2 X M _ _ _ _ _ H locs ls w (lv_sub hl [1, 2, 3, 0] rfl) h
/-! WalkHouse.upperAhead(II)LWalkHouse$Place; (R) -/
theorem hdX8_upperAhead : yX8_upperAhead.cls = RX8 ∧ yX8_upperAhead.cls ≠ "java/lang/invoke/MethodHandle" ∧ yX8_upperAhead.cls ≠ "java/lang/invoke/VarHandle" ∧ (parseMethodDescriptor yX8_upperAhead.desc).map (fun d => d.parameters.length) = some 2 := by decide +kernel
def fX8_upperAhead (mem : Mm) (a1 : Int32) (a2 : Int32) : Option (Option Nat) :=
  bd (fX5_find mem 15 a1 (1 : Int32) (fX8_firstOf a2 (1 : Int32))) (fun r1 => oc r1 (bd (fX5_find mem 15 a1 (2 : Int32) (fX8_firstOf a2 (2 : Int32))) (fun r3 => some r3)) (fun b2 => some (some b2)))
set_option maxRecDepth 100000 in
set_option maxHeartbeats 4000000 in
theorem kX8_upperAhead {cap : Nat} (l : Launch) (D : va_G) (ca : Nat → ClassId) (ad : Nat → Nat) (mem : Mm) (a1 : Int32) (a2 : Int32)  {r : Option Nat} (h : fX8_upperAhead mem a1 a2 = some r) : CtQ l yX8_upperAhead cX8_upperAhead 4 (some (.object "WalkHouse$Place")) (rmx 3 62) D ca ad (layC cap) mem [.ref (ad 0), .int a1, .int a2] mem r := by
  refine CtQ.of (by decide) (Nat.le_of_ble_eq_true rfl) ?_
  intro p e s m args below meth c H locs ls X M w hl
  replace X : CallFix p m c cX8_upperAhead 4 s args TT RX8 := X
  replace hl : lv_has ls 4 [(0, .ref (ad 0)), (1, .int a1), (2, .int a2)] := hl
  unfold fX8_upperAhead at h
  refine lv_aload_n X.1 X.2.1 dX8_upperAhead_0 rfl (lv_at hl 0 rfl) ?_
  refine r_getr (b2 := 15) X w lyC_0 rfl inT8 4 rfl rfl (by decide) rfl tw_316 dX8_upperAhead_1 ?_
  refine lv_iload_n X.1 X.2.1 dX8_upperAhead_4 rfl (lv_at hl 1 rfl) ?_
  refine lv_iconst (v := (1 : Int32)) X.1 X.2.1 dX8_upperAhead_5 (by decide) ?_
  refine lv_iload_n X.1 X.2.1 dX8_upperAhead_6 rfl (lv_at hl 2 rfl) ?_
  refine lv_iconst (v := (1 : Int32)) X.1 X.2.1 dX8_upperAhead_7 (by decide) ?_
  refine r_cSi (As := [.int a2, .int (1 : Int32)]) (rest := [.int (1 : Int32), .int a1, .ref (ad 15)]) X w (kX8_firstOf (cap := cap) l D ca ad mem a2 (1 : Int32)  rfl) (gTS tw_509 tw_462 tw_65 tw_463) hdX8_firstOf (by decide) rfl hl.1 rfl (Nat.le_of_ble_eq_true rfl) dX8_upperAhead_8 ⟨Nat.zero_le _, Nat.zero_le _⟩ (fun H locs w => ?_)
  obtain ⟨r1, hr1, h⟩ := bd_some h
  refine r_cVq (As := [.int a1, .int (1 : Int32), .int (fX8_firstOf a2 (1 : Int32))]) (rest := []) X w lyC_15 rfl (kX5_find (cap := cap) l D ca ad mem 15 a1 (1 : Int32) (fX8_firstOf a2 (1 : Int32)) isSt15 hr1) (gTV tw_510 tw_511 tw_512 tw_68 tw_513) hdX5_find (by decide) rfl hl.1 rfl (Nat.le_of_ble_eq_true rfl) dX8_upperAhead_11 ⟨Nat.zero_le _, Nat.zero_le _⟩ (fun H locs w => ?_)
  rcases r1 with _ | b2
  · have h := oc_n h
    refine lv_astore_nN (lv' := [(3, .null), (0, .ref (ad 0)), (1, .int a1), (2, .int a2)]) X.1 X.2.1 dX8_upperAhead_14 rfl hl (by decide) rfl (fun ls hl => ?_)
    refine lv_aload_nN X.1 X.2.1 dX8_upperAhead_15 rfl (lv_at hl 0 rfl) ?_
    refine lv_ifnullN (tgt := 23) X.1 X.2.1 dX8_upperAhead_16 (by decide) ?_
    refine lv_aload_n X.1 X.2.1 dX8_upperAhead_23 rfl (lv_at hl 1 rfl) ?_
    refine r_getr (b2 := 15) X w lyC_0 rfl inT8 4 rfl rfl (by decide) rfl tw_316 dX8_upperAhead_24 ?_
    refine lv_iload_n X.1 X.2.1 dX8_upperAhead_27 rfl (lv_at hl 2 rfl) ?_
    refine lv_iconst (v := (2 : Int32)) X.1 X.2.1 dX8_upperAhead_28 (by decide) ?_
    refine lv_iload_n X.1 X.2.1 dX8_upperAhead_29 rfl (lv_at hl 3 rfl) ?_
    refine lv_iconst (v := (2 : Int32)) X.1 X.2.1 dX8_upperAhead_30 (by decide) ?_
    refine r_cSi (As := [.int a2, .int (2 : Int32)]) (rest := [.int (2 : Int32), .int a1, .ref (ad 15)]) X w (kX8_firstOf (cap := cap) l D ca ad mem a2 (2 : Int32)  rfl) (gTS tw_509 tw_462 tw_65 tw_463) hdX8_firstOf (by decide) rfl hl.1 rfl (Nat.le_of_ble_eq_true rfl) dX8_upperAhead_31 ⟨Nat.zero_le _, Nat.zero_le _⟩ (fun H locs w => ?_)
    obtain ⟨r3, hr3, h⟩ := bd_some h
    refine r_cVq (As := [.int a1, .int (2 : Int32), .int (fX8_firstOf a2 (2 : Int32))]) (rest := []) X w lyC_15 rfl (kX5_find (cap := cap) l D ca ad mem 15 a1 (2 : Int32) (fX8_firstOf a2 (2 : Int32)) isSt15 hr3) (gTV tw_510 tw_511 tw_512 tw_68 tw_513) hdX5_find (by decide) rfl hl.1 rfl (Nat.le_of_ble_eq_true rfl) dX8_upperAhead_34 ⟨Nat.zero_le _, Nat.zero_le _⟩ (fun H locs w => ?_)
    obtain rfl := Option.some.inj h
    exact r_aret (r := r3) X M w dX8_upperAhead_37
  · obtain ⟨hb2, h⟩ := oc_s h
    refine lv_astore_n (lv' := [(3, .ref (ad b2)), (0, .ref (ad 0)), (1, .int a1), (2, .int a2)]) X.1 X.2.1 dX8_upperAhead_14 rfl hl (by decide) rfl (fun ls hl => ?_)
    refine lv_aload_n X.1 X.2.1 dX8_upperAhead_15 rfl (lv_at hl 0 rfl) ?_
    refine lv_ifnull X.1 X.2.1 dX8_upperAhead_16 ?_
    refine lv_aload_n X.1 X.2.1 dX8_upperAhead_19 rfl (lv_at hl 0 rfl) ?_
    refine lv_goto (tgt := 37) X.1 X.2.1 dX8_upperAhead_20 (by decide) ?_
    obtain rfl := Option.some.inj h
    exact r_aret (r := (some b2)) X M w dX8_upperAhead_37
/-! WalkHouse.placeWalk(LWalkHouse$Walk;IIZ)LWalkHouse$Place; (W) -/
theorem hdX8_placeWalk : yX8_placeWalk.cls = RX8 ∧ yX8_placeWalk.cls ≠ "java/lang/invoke/MethodHandle" ∧ yX8_placeWalk.cls ≠ "java/lang/invoke/VarHandle" ∧ (parseMethodDescriptor yX8_placeWalk.desc).map (fun d => d.parameters.length) = some 4 := by decide +kernel
def fX8_placeWalk (mem : Mm) (a1 : Nat) (a2 : Int32) (a3 : Int32) (a4 : Int32) : Option (Mm × Option Nat) :=
  bd (fX4_tagNow mem) (fun r1 => bw (fX6_reset mem a1 a2 a3 a4 r1) (fun m3 r2 => bd (fX8_upperAhead m3 r1 a2) (fun r4 => oc r4 (bd (fX4_rootNow m3) (fun r6 => if r6 = (-1 : Int32) then bw (fX6_fail m3 a1 (1 : Int32)) (fun m12 r11 => some (m12, none)) else bd (fX4_rootNow m3) (fun r8 => bw (fX6_leadOn m3 a1 (2 : Int32) r8 (7 : Int32)) (fun m10 r9 => some (m10, none))))) (fun b5 => bw (fX6_leadOn m3 a1 ((m3 b5 2) - (1 : Int32)) (m3 b5 4) (m3 b5 5)) (fun m14 r13 => some (m14, (some b5)))))))
set_option maxRecDepth 100000 in
set_option maxHeartbeats 4000000 in
theorem kX8_placeWalk {cap : Nat} (l : Launch) (D : va_G) (ca : Nat → ClassId) (ad : Nat → Nat) (mem : Mm) (a1 : Nat) (a2 : Int32) (a3 : Int32) (a4 : Int32) (h1 : isWk a1) {mem' : Mm} {r : Option Nat} (h : fX8_placeWalk mem a1 a2 a3 a4 = some (mem', r)) : CtQ l yX8_placeWalk cX8_placeWalk 7 (some (.object "WalkHouse$Place")) (rmx 4 85) D ca ad (layC cap) mem [.ref (ad 0), .ref (ad a1), .int a2, .int a3, .int a4] mem' r := by
  refine CtQ.of (by decide) (Nat.le_of_ble_eq_true rfl) ?_
  intro p e s m args below meth c H locs ls X M w hl
  replace X : CallFix p m c cX8_placeWalk 7 s args TT RX8 := X
  replace hl : lv_has ls 7 [(0, .ref (ad 0)), (1, .ref (ad a1)), (2, .int a2), (3, .int a3), (4, .int a4)] := hl
  unfold fX8_placeWalk at h
  refine lv_aload_n X.1 X.2.1 dX8_placeWalk_0 rfl (lv_at hl 0 rfl) ?_
  refine r_getr (b2 := 3) X w lyC_0 rfl inT8 2 rfl rfl (by decide) rfl tw_314 dX8_placeWalk_1 ?_
  obtain ⟨r1, hr1, h⟩ := bd_some h
  refine r_cVi (As := []) (rest := []) X w lyC_3 rfl (kX4_tagNow (cap := cap) l D ca ad mem   hr1) (gTV tw_470 tw_471 tw_472 tw_66 tw_473) hdX4_tagNow (by decide) rfl hl.1 rfl (Nat.le_of_ble_eq_true rfl) dX8_placeWalk_4 ⟨Nat.zero_le _, Nat.zero_le _⟩ (fun H locs w => ?_)
  refine lv_istore (lv' := [(5, .int r1), (0, .ref (ad 0)), (1, .ref (ad a1)), (2, .int a2), (3, .int a3), (4, .int a4)]) X.1 X.2.1 dX8_placeWalk_7 hl (by decide) rfl (fun ls hl => ?_)
  refine lv_aload_n X.1 X.2.1 dX8_placeWalk_9 rfl (lv_at hl 2 rfl) ?_
  refine lv_iload_n X.1 X.2.1 dX8_placeWalk_10 rfl (lv_at hl 3 rfl) ?_
  refine lv_iload_n X.1 X.2.1 dX8_placeWalk_11 rfl (lv_at hl 4 rfl) ?_
  refine lv_iload X.1 X.2.1 dX8_placeWalk_12 (lv_at hl 5 rfl) ?_
  refine lv_iload X.1 X.2.1 dX8_placeWalk_14 (lv_at hl 0 rfl) ?_
  obtain ⟨m3, r2, hr2, h⟩ := bw_some h
  refine r_cVv (As := [.int a2, .int a3, .int a4, .int r1]) (rest := []) X w (lyWk h1) rfl (kX6_reset (cap := cap) l D ca ad mem a1 a2 a3 a4 r1 h1 hr2) (gTV tw_500 tw_501 tw_502 tw_70 tw_503) hdX6_reset (by decide) rfl hl.1 rfl (Nat.le_of_ble_eq_true rfl) dX8_placeWalk_16 ⟨Nat.zero_le _, Nat.zero_le _⟩ (fun H locs w => ?_)
  refine lv_aload_n X.1 X.2.1 dX8_placeWalk_19 rfl (lv_at hl 1 rfl) ?_
  refine lv_iload X.1 X.2.1 dX8_placeWalk_20 (lv_at hl 0 rfl) ?_
  refine lv_iload_n X.1 X.2.1 dX8_placeWalk_22 rfl (lv_at hl 3 rfl) ?_
  obtain ⟨r4, hr4, h⟩ := bd_some h
  refine r_cVq (As := [.int r1, .int a2]) (rest := []) X w lyC_0 rfl (kX8_upperAhead (cap := cap) l D ca ad m3 r1 a2  hr4) (gTV tw_505 tw_507 tw_8 tw_65 tw_508) hdX8_upperAhead (by decide) rfl hl.1 rfl (Nat.le_of_ble_eq_true rfl) dX8_placeWalk_23 ⟨Nat.zero_le _, Nat.zero_le _⟩ (fun H locs w => ?_)
  rcases r4 with _ | b5
  · have h := oc_n h
    refine lv_astoreN (lv' := [(6, .null), (5, .int r1), (0, .ref (ad 0)), (1, .ref (ad a1)), (2, .int a2), (3, .int a3), (4, .int a4)]) X.1 X.2.1 dX8_placeWalk_26 hl (by decide) rfl (fun ls hl => ?_)
    refine lv_aloadN X.1 X.2.1 dX8_placeWalk_28 (lv_at hl 0 rfl) ?_
    refine lv_ifnullN (tgt := 57) X.1 X.2.1 dX8_placeWalk_30 (by decide) ?_
    refine lv_aload_n X.1 X.2.1 dX8_placeWalk_57 rfl (lv_at hl 2 rfl) ?_
    refine r_getr (b2 := 3) X w lyC_0 rfl inT8 2 rfl rfl (by decide) rfl tw_314 dX8_placeWalk_58 ?_
    obtain ⟨r6, hr6, h⟩ := bd_some h
    refine r_cVi (As := []) (rest := []) X w lyC_3 rfl (kX4_rootNow (cap := cap) l D ca ad m3   hr6) (gTV tw_518 tw_519 tw_520 tw_66 tw_521) hdX4_rootNow (by decide) rfl hl.1 rfl (Nat.le_of_ble_eq_true rfl) dX8_placeWalk_61 ⟨Nat.zero_le _, Nat.zero_le _⟩ (fun H locs w => ?_)
    refine lv_iconst (v := (-1 : Int32)) X.1 X.2.1 dX8_placeWalk_64 (by decide) ?_
    refine lv_icmp_ne (tgt := 76) X.1 X.2.1 dX8_placeWalk_65 (by decide) (fun c7 => ?_) (fun c7 => ?_)
    · rw [if_neg c7] at h
      refine lv_aload_n X.1 X.2.1 dX8_placeWalk_76 rfl (lv_at hl 3 rfl) ?_
      refine lv_iconst (v := (2 : Int32)) X.1 X.2.1 dX8_placeWalk_77 (by decide) ?_
      refine lv_aload_n X.1 X.2.1 dX8_placeWalk_78 rfl (lv_at hl 2 rfl) ?_
      refine r_getr (b2 := 3) X w lyC_0 rfl inT8 2 rfl rfl (by decide) rfl tw_314 dX8_placeWalk_79 ?_
      obtain ⟨r8, hr8, h⟩ := bd_some h
      refine r_cVi (As := []) (rest := [.int (2 : Int32), .ref (ad a1)]) X w lyC_3 rfl (kX4_rootNow (cap := cap) l D ca ad m3   hr8) (gTV tw_518 tw_519 tw_520 tw_66 tw_521) hdX4_rootNow (by decide) rfl hl.1 rfl (Nat.le_of_ble_eq_true rfl) dX8_placeWalk_82 ⟨Nat.zero_le _, Nat.zero_le _⟩ (fun H locs w => ?_)
      refine lv_bipush (v := (7 : Int32)) X.1 X.2.1 dX8_placeWalk_85 (by decide) ?_
      obtain ⟨m10, r9, hr9, h⟩ := bw_some h
      refine r_cVv (As := [.int (2 : Int32), .int r8, .int (7 : Int32)]) (rest := []) X w (lyWk h1) rfl (kX6_leadOn (cap := cap) l D ca ad m3 a1 (2 : Int32) r8 (7 : Int32) h1 hr9) (gTV tw_514 tw_515 tw_516 tw_70 tw_517) hdX6_leadOn (by decide) rfl hl.1 rfl (Nat.le_of_ble_eq_true rfl) dX8_placeWalk_87 ⟨Nat.zero_le _, Nat.zero_le _⟩ (fun H locs w => ?_)
      refine lv_aloadN X.1 X.2.1 dX8_placeWalk_90 (lv_at hl 0 rfl) ?_
      obtain ⟨rfl, rfl⟩ := Prod.mk.inj (Option.some.inj h)
      exact r_aret (r := none) X M w dX8_placeWalk_92
    · rw [if_pos c7] at h
      refine lv_aload_n X.1 X.2.1 dX8_placeWalk_68 rfl (lv_at hl 3 rfl) ?_
      refine lv_iconst (v := (1 : Int32)) X.1 X.2.1 dX8_placeWalk_69 (by decide) ?_
      obtain ⟨m12, r11, hr11, h⟩ := bw_some h
      refine r_cVv (As := [.int (1 : Int32)]) (rest := []) X w (lyWk h1) rfl (kX6_fail (cap := cap) l D ca ad m3 a1 (1 : Int32) h1 hr11) (gTV tw_522 tw_523 tw_524 tw_70 tw_525) hdX6_fail (by decide) rfl hl.1 rfl (Nat.le_of_ble_eq_true rfl) dX8_placeWalk_70 ⟨Nat.zero_le _, Nat.zero_le _⟩ (fun H locs w => ?_)
      refine lv_goto (tgt := 90) X.1 X.2.1 dX8_placeWalk_73 (by decide) ?_
      refine lv_aloadN X.1 X.2.1 dX8_placeWalk_90 (lv_at hl 0 rfl) ?_
      obtain ⟨rfl, rfl⟩ := Prod.mk.inj (Option.some.inj h)
      exact r_aret (r := none) X M w dX8_placeWalk_92
  · obtain ⟨hb5, h⟩ := oc_s h
    refine lv_astore (lv' := [(6, .ref (ad b5)), (5, .int r1), (0, .ref (ad 0)), (1, .ref (ad a1)), (2, .int a2), (3, .int a3), (4, .int a4)]) X.1 X.2.1 dX8_placeWalk_26 hl (by decide) rfl (fun ls hl => ?_)
    refine lv_aload X.1 X.2.1 dX8_placeWalk_28 (lv_at hl 0 rfl) ?_
    refine lv_ifnull X.1 X.2.1 dX8_placeWalk_30 ?_
    refine lv_aload_n X.1 X.2.1 dX8_placeWalk_33 rfl (lv_at hl 3 rfl) ?_
    refine lv_aload X.1 X.2.1 dX8_placeWalk_34 (lv_at hl 0 rfl) ?_
    refine r_get X w (lyPl hb5) rfl inT3 2 rfl (by decide) rfl tw_141 dX8_placeWalk_36 ?_
    refine lv_iconst (v := (1 : Int32)) X.1 X.2.1 dX8_placeWalk_39 (by decide) ?_
    refine lv_isub X.1 X.2.1 dX8_placeWalk_40 ?_
    refine lv_aload X.1 X.2.1 dX8_placeWalk_41 (lv_at hl 0 rfl) ?_
    refine r_get X w (lyPl hb5) rfl inT3 4 rfl (by decide) rfl tw_146 dX8_placeWalk_43 ?_
    refine lv_aload X.1 X.2.1 dX8_placeWalk_46 (lv_at hl 0 rfl) ?_
    refine r_get X w (lyPl hb5) rfl inT3 5 rfl (by decide) rfl tw_148 dX8_placeWalk_48 ?_
    obtain ⟨m14, r13, hr13, h⟩ := bw_some h
    refine r_cVv (As := [.int ((m3 b5 2) - (1 : Int32)), .int (m3 b5 4), .int (m3 b5 5)]) (rest := []) X w (lyWk h1) rfl (kX6_leadOn (cap := cap) l D ca ad m3 a1 ((m3 b5 2) - (1 : Int32)) (m3 b5 4) (m3 b5 5) h1 hr13) (gTV tw_514 tw_515 tw_516 tw_70 tw_517) hdX6_leadOn (by decide) rfl hl.1 rfl (Nat.le_of_ble_eq_true rfl) dX8_placeWalk_51 ⟨Nat.zero_le _, Nat.zero_le _⟩ (fun H locs w => ?_)
    refine lv_goto (tgt := 90) X.1 X.2.1 dX8_placeWalk_54 (by decide) ?_
    refine lv_aload X.1 X.2.1 dX8_placeWalk_90 (lv_at hl 0 rfl) ?_
    obtain ⟨rfl, rfl⟩ := Prod.mk.inj (Option.some.inj h)
    exact r_aret (r := (some b5)) X M w dX8_placeWalk_92
/-! WalkHouse.startWalk(LWalkHouse$Walk;IIZ)V (W) -/
theorem hdX8_startWalk : yX8_startWalk.cls = RX8 ∧ yX8_startWalk.cls ≠ "java/lang/invoke/MethodHandle" ∧ yX8_startWalk.cls ≠ "java/lang/invoke/VarHandle" ∧ (parseMethodDescriptor yX8_startWalk.desc).map (fun d => d.parameters.length) = some 4 := by decide +kernel
def fX8_startWalk (mem : Mm) (a1 : Nat) (a2 : Int32) (a3 : Int32) (a4 : Int32) : Option (Mm × Unit) :=
  bw (fX8_placeWalk mem a1 a2 a3 a4) (fun m2 r1 => oc r1 (some (m2, ())) (fun b3 => bw (fX5_touch m2 15 b3) (fun m5 r4 => wk m5 0 14 ((m5 0 14) + (1 : Int32)) (fun m6 => some (m6, ())))))
set_option maxRecDepth 100000 in
set_option maxHeartbeats 4000000 in
theorem kX8_startWalk {cap : Nat} (l : Launch) (D : va_G) (ca : Nat → ClassId) (ad : Nat → Nat) (mem : Mm) (a1 : Nat) (a2 : Int32) (a3 : Int32) (a4 : Int32) (h1 : isWk a1) {mem' : Mm} {r : Unit} (h : fX8_startWalk mem a1 a2 a3 a4 = some (mem', r)) : CtV l yX8_startWalk cX8_startWalk 6 none (rmx 5 111) D ca ad (layC cap) mem [.ref (ad 0), .ref (ad a1), .int a2, .int a3, .int a4] mem' := by
  refine CtV.of (by decide) (Nat.le_of_ble_eq_true rfl) ?_
  intro p e s m args below meth c H locs ls X M w hl
  replace X : CallFix p m c cX8_startWalk 6 s args TT RX8 := X
  replace hl : lv_has ls 6 [(0, .ref (ad 0)), (1, .ref (ad a1)), (2, .int a2), (3, .int a3), (4, .int a4)] := hl
  unfold fX8_startWalk at h
  refine lv_aload_n X.1 X.2.1 dX8_startWalk_0 rfl (lv_at hl 0 rfl) ?_
  refine lv_aload_n X.1 X.2.1 dX8_startWalk_1 rfl (lv_at hl 1 rfl) ?_
  refine lv_iload_n X.1 X.2.1 dX8_startWalk_2 rfl (lv_at hl 2 rfl) ?_
  refine lv_iload_n X.1 X.2.1 dX8_startWalk_3 rfl (lv_at hl 3 rfl) ?_
  refine lv_iload X.1 X.2.1 dX8_startWalk_4 (lv_at hl 4 rfl) ?_
  obtain ⟨m2, r1, hr1, h⟩ := bw_some h
  refine r_cVq (As := [.ref (ad a1), .int a2, .int a3, .int a4]) (rest := []) X w lyC_0 rfl (kX8_placeWalk (cap := cap) l D ca ad mem a1 a2 a3 a4 h1 hr1) (gTV tw_496 tw_498 tw_7 tw_65 tw_499) hdX8_placeWalk (by decide) rfl hl.1 rfl (Nat.le_of_ble_eq_true rfl) dX8_startWalk_6 ⟨Nat.zero_le _, Nat.zero_le _⟩ (fun H locs w => ?_)
  rcases r1 with _ | b3
  · have h := oc_n h
    refine lv_astoreN (lv' := [(5, .null), (0, .ref (ad 0)), (1, .ref (ad a1)), (2, .int a2), (3, .int a3), (4, .int a4)]) X.1 X.2.1 dX8_startWalk_9 hl (by decide) rfl (fun ls hl => ?_)
    refine lv_aloadN X.1 X.2.1 dX8_startWalk_11 (lv_at hl 0 rfl) ?_
    refine lv_ifnullN (tgt := 35) X.1 X.2.1 dX8_startWalk_13 (by decide) ?_
    obtain ⟨rfl, -⟩ := Prod.mk.inj (Option.some.inj h)
    exact r_vret X M w dX8_startWalk_35
  · obtain ⟨hb3, h⟩ := oc_s h
    refine lv_astore (lv' := [(5, .ref (ad b3)), (0, .ref (ad 0)), (1, .ref (ad a1)), (2, .int a2), (3, .int a3), (4, .int a4)]) X.1 X.2.1 dX8_startWalk_9 hl (by decide) rfl (fun ls hl => ?_)
    refine lv_aload X.1 X.2.1 dX8_startWalk_11 (lv_at hl 0 rfl) ?_
    refine lv_ifnull X.1 X.2.1 dX8_startWalk_13 ?_
    refine lv_aload_n X.1 X.2.1 dX8_startWalk_16 rfl (lv_at hl 1 rfl) ?_
    refine r_getr (b2 := 15) X w lyC_0 rfl inT8 4 rfl rfl (by decide) rfl tw_316 dX8_startWalk_17 ?_
    refine lv_aload X.1 X.2.1 dX8_startWalk_20 (lv_at hl 0 rfl) ?_
    obtain ⟨m5, r4, hr4, h⟩ := bw_some h
    refine r_cVv (As := [.ref (ad b3)]) (rest := []) X w lyC_15 rfl (kX5_touch (cap := cap) l D ca ad m2 15 b3 isSt15 hb3 hr4) (gTV tw_483 tw_484 tw_485 tw_68 tw_486) hdX5_touch (by decide) rfl hl.1 rfl (Nat.le_of_ble_eq_true rfl) dX8_startWalk_22 ⟨Nat.zero_le _, Nat.zero_le _⟩ (fun H locs w => ?_)
    refine lv_aload_n X.1 X.2.1 dX8_startWalk_25 rfl (lv_at hl 1 rfl) ?_
    refine lv_dup X.1 X.2.1 dX8_startWalk_26 rfl ?_
    refine r_get X w lyC_0 rfl inT8 14 rfl (by decide) rfl tw_326 dX8_startWalk_27 ?_
    refine lv_iconst (v := (1 : Int32)) X.1 X.2.1 dX8_startWalk_30 (by decide) ?_
    refine lv_iadd X.1 X.2.1 dX8_startWalk_31 ?_
    refine r_put X w lyC_0 rfl inT8 tyX8 tyX8_ok nmX8 14 rfl (by decide) rfl rfl tw_326 rfl rfl dX8_startWalk_32 (fun H locs w => ?_)
    obtain ⟨m6, em6, h⟩ := wk_some h
    rw [em6] at w
    obtain ⟨rfl, -⟩ := Prod.mk.inj (Option.some.inj h)
    exact r_vret X M w dX8_startWalk_35
/-! WalkHouse.digitOf(II)I (T) -/
theorem hdX8_digitOf : yX8_digitOf.cls ≠ "java/lang/invoke/MethodHandle" ∧ yX8_digitOf.cls ≠ "java/lang/invoke/VarHandle" ∧ (parseMethodDescriptor yX8_digitOf.desc).map (fun d => d.parameters.length) = some 2 := by decide +kernel
def fX8_digitOf (a0 : Int32) (a1 : Int32) : Int32 :=
  ((a0 >>> (((3 : Int32) * a1) &&& 31)) &&& (7 : Int32))
set_option maxRecDepth 100000 in
set_option maxHeartbeats 4000000 in
theorem kX8_digitOf {cap : Nat} (l : Launch) (D : va_G) (ca : Nat → ClassId) (ad : Nat → Nat) (mem : Mm) (a0 : Int32) (a1 : Int32)  {r : Int32} (h : fX8_digitOf a0 a1 = r) : CtI l yX8_digitOf cX8_digitOf 2 (some .int) (rmx 0 0) D ca ad (layC cap) mem [.int a0, .int a1] mem r := by
  refine CtI.of (by decide) (Nat.le_of_ble_eq_true rfl) ?_
  intro p e s m args below meth c H locs ls X M w hl
  replace X : CallFix p m c cX8_digitOf 2 s args TT RX8 := X
  replace hl : lv_has ls 2 [(0, .int a0), (1, .int a1)] := hl
  unfold fX8_digitOf at h
  refine lv_iload_n X.1 X.2.1 dX8_digitOf_0 rfl (lv_at hl 0 rfl) ?_
  refine lv_iconst (v := (3 : Int32)) X.1 X.2.1 dX8_digitOf_1 (by decide) ?_
  refine lv_iload_n X.1 X.2.1 dX8_digitOf_2 rfl (lv_at hl 1 rfl) ?_
  refine lv_imul X.1 X.2.1 dX8_digitOf_3 ?_
  refine lv_ishr X.1 X.2.1 dX8_digitOf_4 ?_
  refine lv_bipush (v := (7 : Int32)) X.1 X.2.1 dX8_digitOf_5 (by decide) ?_
  refine lv_iand X.1 X.2.1 dX8_digitOf_7 ?_
  subst h
  exact r_iret X M w dX8_digitOf_8
/-! WalkHouse.rightsOf(I)I (T) -/
theorem hdX8_rightsOf : yX8_rightsOf.cls ≠ "java/lang/invoke/MethodHandle" ∧ yX8_rightsOf.cls ≠ "java/lang/invoke/VarHandle" ∧ (parseMethodDescriptor yX8_rightsOf.desc).map (fun d => d.parameters.length) = some 1 := by decide +kernel
def fX8_rightsOf (a0 : Int32) : Int32 :=
  ((a0 >>> ((2 : Int32) &&& 31)) &&& (15 : Int32))
set_option maxRecDepth 100000 in
set_option maxHeartbeats 4000000 in
theorem kX8_rightsOf {cap : Nat} (l : Launch) (D : va_G) (ca : Nat → ClassId) (ad : Nat → Nat) (mem : Mm) (a0 : Int32)  {r : Int32} (h : fX8_rightsOf a0 = r) : CtI l yX8_rightsOf cX8_rightsOf 1 (some .int) (rmx 0 0) D ca ad (layC cap) mem [.int a0] mem r := by
  refine CtI.of (by decide) (Nat.le_of_ble_eq_true rfl) ?_
  intro p e s m args below meth c H locs ls X M w hl
  replace X : CallFix p m c cX8_rightsOf 1 s args TT RX8 := X
  replace hl : lv_has ls 1 [(0, .int a0)] := hl
  unfold fX8_rightsOf at h
  refine lv_iload_n X.1 X.2.1 dX8_rightsOf_0 rfl (lv_at hl 0 rfl) ?_
  refine lv_iconst (v := (2 : Int32)) X.1 X.2.1 dX8_rightsOf_1 (by decide) ?_
  refine lv_ishr X.1 X.2.1 dX8_rightsOf_2 ?_
  refine lv_bipush (v := (15 : Int32)) X.1 X.2.1 dX8_rightsOf_3 (by decide) ?_
  refine lv_iand X.1 X.2.1 dX8_rightsOf_5 ?_
  subst h
  exact r_iret X M w dX8_rightsOf_6
/-! WalkHouse.faultOf(III)I (T) -/
theorem hdX8_faultOf : yX8_faultOf.cls ≠ "java/lang/invoke/MethodHandle" ∧ yX8_faultOf.cls ≠ "java/lang/invoke/VarHandle" ∧ (parseMethodDescriptor yX8_faultOf.desc).map (fun d => d.parameters.length) = some 3 := by decide +kernel
def fX8_faultOf (a0 : Int32) (a1 : Int32) (a2 : Int32) : Int32 :=
  if (fX8_kindOf a0) = 0 then (2 : Int32) else if (fX8_kindOf a0) = (1 : Int32) then if a1 = 0 then (3 : Int32) else if a2 = 0 then (0 : Int32) else (4 : Int32) else if a2 = 0 then (0 : Int32) else (4 : Int32)
set_option maxRecDepth 100000 in
set_option maxHeartbeats 4000000 in
theorem kX8_faultOf {cap : Nat} (l : Launch) (D : va_G) (ca : Nat → ClassId) (ad : Nat → Nat) (mem : Mm) (a0 : Int32) (a1 : Int32) (a2 : Int32)  {r : Int32} (h : fX8_faultOf a0 a1 a2 = r) : CtI l yX8_faultOf cX8_faultOf 3 (some .int) (rmx 1 20) D ca ad (layC cap) mem [.int a0, .int a1, .int a2] mem r := by
  refine CtI.of (by decide) (Nat.le_of_ble_eq_true rfl) ?_
  intro p e s m args below meth c H locs ls X M w hl
  replace X : CallFix p m c cX8_faultOf 3 s args TT RX8 := X
  replace hl : lv_has ls 3 [(0, .int a0), (1, .int a1), (2, .int a2)] := hl
  unfold fX8_faultOf at h
  refine lv_iload_n X.1 X.2.1 dX8_faultOf_0 rfl (lv_at hl 0 rfl) ?_
  refine r_cSi (As := [.int a0]) (rest := []) X w (kX8_kindOf (cap := cap) l D ca ad mem a0  rfl) (gTS tw_381 tw_382 tw_65 tw_383) hdX8_kindOf (by decide) rfl hl.1 rfl (Nat.le_of_ble_eq_true rfl) dX8_faultOf_1 ⟨Nat.zero_le _, Nat.zero_le _⟩ (fun H locs w => ?_)
  refine lv_if_ne (tgt := 9) X.1 X.2.1 dX8_faultOf_4 (by decide) (fun c1 => ?_) (fun c1 => ?_)
  · rw [if_neg c1] at h
    refine lv_iload_n X.1 X.2.1 dX8_faultOf_9 rfl (lv_at hl 0 rfl) ?_
    refine r_cSi (As := [.int a0]) (rest := []) X w (kX8_kindOf (cap := cap) l D ca ad mem a0  rfl) (gTS tw_381 tw_382 tw_65 tw_383) hdX8_kindOf (by decide) rfl hl.1 rfl (Nat.le_of_ble_eq_true rfl) dX8_faultOf_10 ⟨Nat.zero_le _, Nat.zero_le _⟩ (fun H locs w => ?_)
    refine lv_iconst (v := (1 : Int32)) X.1 X.2.1 dX8_faultOf_13 (by decide) ?_
    refine lv_icmp_ne (tgt := 23) X.1 X.2.1 dX8_faultOf_14 (by decide) (fun c2 => ?_) (fun c2 => ?_)
    · rw [if_neg c2] at h
      refine lv_iload_n X.1 X.2.1 dX8_faultOf_23 rfl (lv_at hl 2 rfl) ?_
      refine lv_if_eq (tgt := 31) X.1 X.2.1 dX8_faultOf_24 (by decide) (fun c3 => ?_) (fun c3 => ?_)
      · rw [if_pos c3] at h
        refine lv_iconst (v := (0 : Int32)) X.1 X.2.1 dX8_faultOf_31 (by decide) ?_
        subst h
        exact r_iret X M w dX8_faultOf_32
      · rw [if_neg c3] at h
        refine lv_iconst (v := (4 : Int32)) X.1 X.2.1 dX8_faultOf_27 (by decide) ?_
        refine lv_goto (tgt := 32) X.1 X.2.1 dX8_faultOf_28 (by decide) ?_
        subst h
        exact r_iret X M w dX8_faultOf_32
    · rw [if_pos c2] at h
      refine lv_iload_n X.1 X.2.1 dX8_faultOf_17 rfl (lv_at hl 1 rfl) ?_
      refine lv_if_ne (tgt := 23) X.1 X.2.1 dX8_faultOf_18 (by decide) (fun c4 => ?_) (fun c4 => ?_)
      · rw [if_neg c4] at h
        refine lv_iload_n X.1 X.2.1 dX8_faultOf_23 rfl (lv_at hl 2 rfl) ?_
        refine lv_if_eq (tgt := 31) X.1 X.2.1 dX8_faultOf_24 (by decide) (fun c5 => ?_) (fun c5 => ?_)
        · rw [if_pos c5] at h
          refine lv_iconst (v := (0 : Int32)) X.1 X.2.1 dX8_faultOf_31 (by decide) ?_
          subst h
          exact r_iret X M w dX8_faultOf_32
        · rw [if_neg c5] at h
          refine lv_iconst (v := (4 : Int32)) X.1 X.2.1 dX8_faultOf_27 (by decide) ?_
          refine lv_goto (tgt := 32) X.1 X.2.1 dX8_faultOf_28 (by decide) ?_
          subst h
          exact r_iret X M w dX8_faultOf_32
      · rw [if_pos c4] at h
        refine lv_iconst (v := (3 : Int32)) X.1 X.2.1 dX8_faultOf_21 (by decide) ?_
        subst h
        exact r_iret X M w dX8_faultOf_22
  · rw [if_pos c1] at h
    refine lv_iconst (v := (2 : Int32)) X.1 X.2.1 dX8_faultOf_7 (by decide) ?_
    subst h
    exact r_iret X M w dX8_faultOf_8
/-! WalkHouse.setMarks(LWalkHouse$Walk;IZ)V (W) -/
theorem hdX8_setMarks : yX8_setMarks.cls = RX8 ∧ yX8_setMarks.cls ≠ "java/lang/invoke/MethodHandle" ∧ yX8_setMarks.cls ≠ "java/lang/invoke/VarHandle" ∧ (parseMethodDescriptor yX8_setMarks.desc).map (fun d => d.parameters.length) = some 3 := by decide +kernel
def fX8_setMarks_b79  (mem : Mm) (x1 : Nat) (x5 : Int32) : Option (Mm × Unit) :=
  if x5 = 0 then some (mem, ()) else wk mem x1 8 ((mem x1 8) + (1 : Int32)) (fun m2 => some (m2, ()))
set_option maxRecDepth 100000 in
set_option maxHeartbeats 4000000 in
theorem wX8_setMarks_b79 {p : Program} {l : Launch} {e : Env} {s : State} {m : MethodId} {args : Array Value} {below : List Frame} {meth : Method} {c : Code} {D : va_G} {ca : Nat → ClassId} {ad : Nat → Nat} {cap : Nat} {H : Heap} {locs : List Loc} {ls : Array Slot} {mem : Mm} {x1 : Nat} {x5 : Int32}  {mem' : Mm} {r : Unit} (X : CallFix p m c cX8_setMarks 6 s args TT RX8) (M : Mt meth none)  (hx1 : isWk x1) (w : Wd D ca ad (layC cap) (AA ad (layC cap).length) s.heap s mem H locs) (hl : lv_has ls 6 [(1, .ref (ad x1)), (5, .int x5)]) (h : fX8_setMarks_b79  mem x1 x5 = some (mem', r)) : W p l e (rmx 1 21) s m args below meth c H locs 0 0 (EndV D ca ad (layC cap) mem' below args s) (F0 m 79 ls []) := by
  unfold fX8_setMarks_b79 at h
  refine lv_iload X.1 X.2.1 dX8_setMarks_79 (lv_at hl 1 rfl) ?_
  refine lv_if_eq (tgt := 94) X.1 X.2.1 dX8_setMarks_81 (by decide) (fun c1 => ?_) (fun c1 => ?_)
  · rw [if_pos c1] at h
    obtain ⟨rfl, -⟩ := Prod.mk.inj (Option.some.inj h)
    exact r_vret X M w dX8_setMarks_94
  · rw [if_neg c1] at h
    refine lv_aload_n X.1 X.2.1 dX8_setMarks_84 rfl (lv_at hl 0 rfl) ?_
    refine lv_dup X.1 X.2.1 dX8_setMarks_85 rfl ?_
    refine r_get X w (lyWk hx1) rfl inT6 8 rfl (by decide) rfl tw_202 dX8_setMarks_86 ?_
    refine lv_iconst (v := (1 : Int32)) X.1 X.2.1 dX8_setMarks_89 (by decide) ?_
    refine lv_iadd X.1 X.2.1 dX8_setMarks_90 ?_
    refine r_put X w (lyWk hx1) rfl inT6 tyX6 tyX6_ok nmX6 8 rfl (by decide) rfl rfl tw_202 rfl rfl dX8_setMarks_91 (fun H locs w => ?_)
    obtain ⟨m2, em2, h⟩ := wk_some h
    rw [em2] at w
    obtain ⟨rfl, -⟩ := Prod.mk.inj (Option.some.inj h)
    exact r_vret X M w dX8_setMarks_94
def fX8_setMarks_b39  (mem : Mm) (x1 : Nat) (x2 : Int32) (x3 : Int32) (s0 : Int32) : Option (Mm × Unit) :=
  gd x2 96 (lk (s0 &&& ((mem 2 x2.toNatClampNeg) ^^^ (-1 : Int32))) (fun x_2 => if x3 = 0 then bd (fX6_hasRead mem x1 x2) (fun r4 => if r4 = 0 then fX8_setMarks_b79 mem x1 x_2 else fX8_setMarks_b79 mem x1 (0 : Int32)) else gd x2 96 (gd x2 96 (wk mem 2 x2.toNatClampNeg ((mem 2 x2.toNatClampNeg) ||| x_2) (fun m8 => fX8_setMarks_b79 m8 x1 x_2)))))
set_option maxRecDepth 100000 in
set_option maxHeartbeats 4000000 in
theorem wX8_setMarks_b39 {p : Program} {l : Launch} {e : Env} {s : State} {m : MethodId} {args : Array Value} {below : List Frame} {meth : Method} {c : Code} {D : va_G} {ca : Nat → ClassId} {ad : Nat → Nat} {cap : Nat} {H : Heap} {locs : List Loc} {ls : Array Slot} {mem : Mm} {x1 : Nat} {x2 : Int32} {x3 : Int32} {s0 : Int32}  {mem' : Mm} {r : Unit} (X : CallFix p m c cX8_setMarks 6 s args TT RX8) (M : Mt meth none)  (hx1 : isWk x1) (w : Wd D ca ad (layC cap) (AA ad (layC cap).length) s.heap s mem H locs) (hl : lv_has ls 6 [(0, .ref (ad 0)), (1, .ref (ad x1)), (2, .int x2), (3, .int x3)]) (h : fX8_setMarks_b39  mem x1 x2 x3 s0 = some (mem', r)) : W p l e (rmx 1 21) s m args below meth c H locs 0 0 (EndV D ca ad (layC cap) mem' below args s) (F0 m 39 ls [.int s0]) := by
  unfold fX8_setMarks_b39 at h
  refine lv_aload_n X.1 X.2.1 dX8_setMarks_39 rfl (lv_at hl 0 rfl) ?_
  refine r_getr (b2 := 2) X w lyC_0 rfl inT8 1 rfl rfl (by decide) rfl tw_313 dX8_setMarks_40 ?_
  refine lv_iload_n X.1 X.2.1 dX8_setMarks_43 rfl (lv_at hl 2 rfl) ?_
  obtain ⟨hi1, h⟩ := gd_some h
  refine r_iald X w lyC_2 hi1 dX8_setMarks_44 ?_
  refine lv_iconst (v := (-1 : Int32)) X.1 X.2.1 dX8_setMarks_45 (by decide) ?_
  refine lv_ixor X.1 X.2.1 dX8_setMarks_46 ?_
  refine lv_iand X.1 X.2.1 dX8_setMarks_47 ?_
  obtain ⟨x_2, ex_2, h⟩ := lk_some h
  refine lv_name ex_2 ?_
  refine lv_istore (lv' := [(5, .int x_2), (0, .ref (ad 0)), (1, .ref (ad x1)), (2, .int x2), (3, .int x3)]) X.1 X.2.1 dX8_setMarks_48 hl (by decide) rfl (fun ls hl => ?_)
  refine lv_iload_n X.1 X.2.1 dX8_setMarks_50 rfl (lv_at hl 4 rfl) ?_
  refine lv_if_eq (tgt := 68) X.1 X.2.1 dX8_setMarks_51 (by decide) (fun c3 => ?_) (fun c3 => ?_)
  · rw [if_pos c3] at h
    refine lv_aload_n X.1 X.2.1 dX8_setMarks_68 rfl (lv_at hl 2 rfl) ?_
    refine lv_iload_n X.1 X.2.1 dX8_setMarks_69 rfl (lv_at hl 3 rfl) ?_
    obtain ⟨r4, hr4, h⟩ := bd_some h
    refine r_cVi (As := [.int x2]) (rest := []) X w (lyWk hx1) rfl (kX6_hasRead (cap := cap) l D ca ad mem x1 x2 hx1 hr4) (gTV tw_547 tw_548 tw_549 tw_70 tw_550) hdX6_hasRead (by decide) rfl hl.1 rfl (Nat.le_of_ble_eq_true rfl) dX8_setMarks_70 ⟨Nat.zero_le _, Nat.zero_le _⟩ (fun H locs w => ?_)
    refine lv_if_eq (tgt := 79) X.1 X.2.1 dX8_setMarks_73 (by decide) (fun c5 => ?_) (fun c5 => ?_)
    · rw [if_pos c5] at h
      exact wX8_setMarks_b79 X M hx1 w (lv_sub hl [2, 0] rfl) h
    · rw [if_neg c5] at h
      refine lv_iconst (v := (0 : Int32)) X.1 X.2.1 dX8_setMarks_76 (by decide) ?_
      refine lv_istore (lv' := [(5, .int (0 : Int32)), (0, .ref (ad 0)), (1, .ref (ad x1)), (2, .int x2), (3, .int x3)]) X.1 X.2.1 dX8_setMarks_77 hl (by decide) rfl (fun ls hl => ?_)
      exact wX8_setMarks_b79 X M hx1 w (lv_sub hl [2, 0] rfl) h
  · rw [if_neg c3] at h
    refine lv_aload_n X.1 X.2.1 dX8_setMarks_54 rfl (lv_at hl 1 rfl) ?_
    refine r_getr (b2 := 2) X w lyC_0 rfl inT8 1 rfl rfl (by decide) rfl tw_313 dX8_setMarks_55 ?_
    refine lv_iload_n X.1 X.2.1 dX8_setMarks_58 rfl (lv_at hl 3 rfl) ?_
    refine lv_dup2_11 X.1 X.2.1 dX8_setMarks_59 rfl rfl ?_
    obtain ⟨hi6, h⟩ := gd_some h
    refine r_iald X w lyC_2 hi6 dX8_setMarks_60 ?_
    refine lv_iload X.1 X.2.1 dX8_setMarks_61 (lv_at hl 0 rfl) ?_
    refine lv_ior X.1 X.2.1 dX8_setMarks_63 ?_
    obtain ⟨hi7, h⟩ := gd_some h
    refine r_iast X w lyC_2 hi7 dX8_setMarks_64 (fun H locs w => ?_)
    obtain ⟨m8, em8, h⟩ := wk_some h
    rw [em8] at w
    refine lv_goto (tgt := 79) X.1 X.2.1 dX8_setMarks_65 (by decide) ?_
    exact wX8_setMarks_b79 X M hx1 w (lv_sub hl [2, 0] rfl) h
def fX8_setMarks_b27  (mem : Mm) (x1 : Nat) (x2 : Int32) (x3 : Int32) (s0 : Int32) : Option (Mm × Unit) :=
  if s0 = 0 then fX8_setMarks_b39 mem x1 x2 x3 (1 : Int32) else fX8_setMarks_b39 mem x1 x2 x3 (3 : Int32)
set_option maxRecDepth 100000 in
set_option maxHeartbeats 4000000 in
theorem wX8_setMarks_b27 {p : Program} {l : Launch} {e : Env} {s : State} {m : MethodId} {args : Array Value} {below : List Frame} {meth : Method} {c : Code} {D : va_G} {ca : Nat → ClassId} {ad : Nat → Nat} {cap : Nat} {H : Heap} {locs : List Loc} {ls : Array Slot} {mem : Mm} {x1 : Nat} {x2 : Int32} {x3 : Int32} {s0 : Int32}  {mem' : Mm} {r : Unit} (X : CallFix p m c cX8_setMarks 6 s args TT RX8) (M : Mt meth none)  (hx1 : isWk x1) (w : Wd D ca ad (layC cap) (AA ad (layC cap).length) s.heap s mem H locs) (hl : lv_has ls 6 [(0, .ref (ad 0)), (1, .ref (ad x1)), (2, .int x2), (3, .int x3)]) (h : fX8_setMarks_b27  mem x1 x2 x3 s0 = some (mem', r)) : W p l e (rmx 1 21) s m args below meth c H locs 0 0 (EndV D ca ad (layC cap) mem' below args s) (F0 m 27 ls [.int s0]) := by
  unfold fX8_setMarks_b27 at h
  refine lv_istore (lv' := [(4, .int s0), (0, .ref (ad 0)), (1, .ref (ad x1)), (2, .int x2), (3, .int x3)]) X.1 X.2.1 dX8_setMarks_27 hl (by decide) rfl (fun ls hl => ?_)
  refine lv_iload X.1 X.2.1 dX8_setMarks_29 (lv_at hl 0 rfl) ?_
  refine lv_if_eq (tgt := 38) X.1 X.2.1 dX8_setMarks_31 (by decide) (fun c1 => ?_) (fun c1 => ?_)
  · rw [if_pos c1] at h
    refine lv_iconst (v := (1 : Int32)) X.1 X.2.1 dX8_setMarks_38 (by decide) ?_
    exact wX8_setMarks_b39 X M hx1 w (lv_sub hl [1, 2, 3, 4] rfl) h
  · rw [if_neg c1] at h
    refine lv_iconst (v := (3 : Int32)) X.1 X.2.1 dX8_setMarks_34 (by decide) ?_
    refine lv_goto (tgt := 39) X.1 X.2.1 dX8_setMarks_35 (by decide) ?_
    exact wX8_setMarks_b39 X M hx1 w (lv_sub hl [1, 2, 3, 4] rfl) h
def fX8_setMarks (mem : Mm) (a1 : Nat) (a2 : Int32) (a3 : Int32) : Option (Mm × Unit) :=
  gd a2 96 (if (fX8_kindOf (mem 1 a2.toNatClampNeg)) = (2 : Int32) then if ((mem a1 2) &&& (1 : Int32)) = 0 then fX8_setMarks_b27 mem a1 a2 a3 (0 : Int32) else fX8_setMarks_b27 mem a1 a2 a3 (1 : Int32) else fX8_setMarks_b27 mem a1 a2 a3 (0 : Int32))
set_option maxRecDepth 100000 in
set_option maxHeartbeats 4000000 in
theorem kX8_setMarks {cap : Nat} (l : Launch) (D : va_G) (ca : Nat → ClassId) (ad : Nat → Nat) (mem : Mm) (a1 : Nat) (a2 : Int32) (a3 : Int32) (h1 : isWk a1) {mem' : Mm} {r : Unit} (h : fX8_setMarks mem a1 a2 a3 = some (mem', r)) : CtV l yX8_setMarks cX8_setMarks 6 none (rmx 1 21) D ca ad (layC cap) mem [.ref (ad 0), .ref (ad a1), .int a2, .int a3] mem' := by
  refine CtV.of (by decide) (Nat.le_of_ble_eq_true rfl) ?_
  intro p e s m args below meth c H locs ls X M w hl
  replace X : CallFix p m c cX8_setMarks 6 s args TT RX8 := X
  replace hl : lv_has ls 6 [(0, .ref (ad 0)), (1, .ref (ad a1)), (2, .int a2), (3, .int a3)] := hl
  unfold fX8_setMarks at h
  refine lv_aload_n X.1 X.2.1 dX8_setMarks_0 rfl (lv_at hl 0 rfl) ?_
  refine r_getr (b2 := 1) X w lyC_0 rfl inT8 0 rfl rfl (by decide) rfl tw_312 dX8_setMarks_1 ?_
  refine lv_iload_n X.1 X.2.1 dX8_setMarks_4 rfl (lv_at hl 2 rfl) ?_
  obtain ⟨hi1, h⟩ := gd_some h
  refine r_iald X w lyC_1 hi1 dX8_setMarks_5 ?_
  refine r_cSi (As := [.int (mem 1 a2.toNatClampNeg)]) (rest := []) X w (kX8_kindOf (cap := cap) l D ca ad mem (mem 1 a2.toNatClampNeg)  rfl) (gTS tw_381 tw_382 tw_65 tw_383) hdX8_kindOf (by decide) rfl hl.1 rfl (Nat.le_of_ble_eq_true rfl) dX8_setMarks_6 ⟨Nat.zero_le _, Nat.zero_le _⟩ (fun H locs w => ?_)
  refine lv_iconst (v := (2 : Int32)) X.1 X.2.1 dX8_setMarks_9 (by decide) ?_
  refine lv_icmp_ne (tgt := 26) X.1 X.2.1 dX8_setMarks_10 (by decide) (fun c2 => ?_) (fun c2 => ?_)
  · rw [if_neg c2] at h
    refine lv_iconst (v := (0 : Int32)) X.1 X.2.1 dX8_setMarks_26 (by decide) ?_
    exact wX8_setMarks_b27 X M h1 w (lv_sub hl [0, 1, 2, 3] rfl) h
  · rw [if_pos c2] at h
    refine lv_aload_n X.1 X.2.1 dX8_setMarks_13 rfl (lv_at hl 1 rfl) ?_
    refine r_get X w (lyWk h1) rfl inT6 2 rfl (by decide) rfl tw_190 dX8_setMarks_14 ?_
    refine lv_iconst (v := (1 : Int32)) X.1 X.2.1 dX8_setMarks_17 (by decide) ?_
    refine lv_iand X.1 X.2.1 dX8_setMarks_18 ?_
    refine lv_if_eq (tgt := 26) X.1 X.2.1 dX8_setMarks_19 (by decide) (fun c3 => ?_) (fun c3 => ?_)
    · rw [if_pos c3] at h
      refine lv_iconst (v := (0 : Int32)) X.1 X.2.1 dX8_setMarks_26 (by decide) ?_
      exact wX8_setMarks_b27 X M h1 w (lv_sub hl [0, 1, 2, 3] rfl) h
    · rw [if_neg c3] at h
      refine lv_iconst (v := (1 : Int32)) X.1 X.2.1 dX8_setMarks_22 (by decide) ?_
      refine lv_goto (tgt := 27) X.1 X.2.1 dX8_setMarks_23 (by decide) ?_
      exact wX8_setMarks_b27 X M h1 w (lv_sub hl [0, 1, 2, 3] rfl) h
/-! WalkHouse.targetOf(I)I (T) -/
theorem hdX8_targetOf : yX8_targetOf.cls ≠ "java/lang/invoke/MethodHandle" ∧ yX8_targetOf.cls ≠ "java/lang/invoke/VarHandle" ∧ (parseMethodDescriptor yX8_targetOf.desc).map (fun d => d.parameters.length) = some 1 := by decide +kernel
def fX8_targetOf (a0 : Int32) : Int32 :=
  (a0 >>> ((6 : Int32) &&& 31))
set_option maxRecDepth 100000 in
set_option maxHeartbeats 4000000 in
theorem kX8_targetOf {cap : Nat} (l : Launch) (D : va_G) (ca : Nat → ClassId) (ad : Nat → Nat) (mem : Mm) (a0 : Int32)  {r : Int32} (h : fX8_targetOf a0 = r) : CtI l yX8_targetOf cX8_targetOf 1 (some .int) (rmx 0 0) D ca ad (layC cap) mem [.int a0] mem r := by
  refine CtI.of (by decide) (Nat.le_of_ble_eq_true rfl) ?_
  intro p e s m args below meth c H locs ls X M w hl
  replace X : CallFix p m c cX8_targetOf 1 s args TT RX8 := X
  replace hl : lv_has ls 1 [(0, .int a0)] := hl
  unfold fX8_targetOf at h
  refine lv_iload_n X.1 X.2.1 dX8_targetOf_0 rfl (lv_at hl 0 rfl) ?_
  refine lv_bipush (v := (6 : Int32)) X.1 X.2.1 dX8_targetOf_1 (by decide) ?_
  refine lv_ishr X.1 X.2.1 dX8_targetOf_3 ?_
  subst h
  exact r_iret X M w dX8_targetOf_4
/-! WalkHouse.bringToCaches(LWalkHouse$Walk;II)V (W) -/
theorem hdX8_bringToCaches : yX8_bringToCaches.cls = RX8 ∧ yX8_bringToCaches.cls ≠ "java/lang/invoke/MethodHandle" ∧ yX8_bringToCaches.cls ≠ "java/lang/invoke/VarHandle" ∧ (parseMethodDescriptor yX8_bringToCaches.desc).map (fun d => d.parameters.length) = some 3 := by decide +kernel
def fX8_bringToCaches_b99  (mem : Mm) (x2 : Int32) (x5 : Int32) (x7 : Nat) (s0 : Nat) (s1 : Int32) : Option (Mm × Unit) :=
  wk mem s0 5 s1 (fun m1 => if x5 = 0 then wk m1 x7 6 (0 : Int32) (fun m3 => some (m3, ())) else gd x2 96 (if ((m1 2 x2.toNatClampNeg) &&& (2 : Int32)) = 0 then wk m1 x7 6 (0 : Int32) (fun m6 => some (m6, ())) else wk m1 x7 6 (1 : Int32) (fun m7 => some (m7, ()))))
set_option maxRecDepth 100000 in
set_option maxHeartbeats 4000000 in
theorem wX8_bringToCaches_b99 {p : Program} {l : Launch} {e : Env} {s : State} {m : MethodId} {args : Array Value} {below : List Frame} {meth : Method} {c : Code} {D : va_G} {ca : Nat → ClassId} {ad : Nat → Nat} {cap : Nat} {H : Heap} {locs : List Loc} {ls : Array Slot} {mem : Mm} {x2 : Int32} {x5 : Int32} {x7 : Nat} {s0 : Nat} {s1 : Int32}  {mem' : Mm} {r : Unit} (X : CallFix p m c cX8_bringToCaches 8 s args TT RX8) (M : Mt meth none)  (hx7 : isPl x7) (hs0 : isPl s0) (w : Wd D ca ad (layC cap) (AA ad (layC cap).length) s.heap s mem H locs) (hl : lv_has ls 8 [(0, .ref (ad 0)), (2, .int x2), (5, .int x5), (7, .ref (ad x7))]) (h : fX8_bringToCaches_b99  mem x2 x5 x7 s0 s1 = some (mem', r)) : W p l e (rmx 3 62) s m args below meth c H locs 0 0 (EndV D ca ad (layC cap) mem' below args s) (F0 m 99 ls [.int s1, .ref (ad s0)]) := by
  unfold fX8_bringToCaches_b99 at h
  refine r_put X w (lyPl hs0) rfl inT3 tyX3 tyX3_ok nmX3 5 rfl (by decide) rfl rfl tw_148 rfl rfl dX8_bringToCaches_99 (fun H locs w => ?_)
  obtain ⟨m1, em1, h⟩ := wk_some h
  rw [em1] at w
  refine lv_aload X.1 X.2.1 dX8_bringToCaches_102 (lv_at hl 3 rfl) ?_
  refine lv_iload X.1 X.2.1 dX8_bringToCaches_104 (lv_at hl 2 rfl) ?_
  refine lv_if_eq (tgt := 124) X.1 X.2.1 dX8_bringToCaches_106 (by decide) (fun c2 => ?_) (fun c2 => ?_)
  · rw [if_pos c2] at h
    refine lv_iconst (v := (0 : Int32)) X.1 X.2.1 dX8_bringToCaches_124 (by decide) ?_
    refine r_put X w (lyPl hx7) rfl inT3 tyX3 tyX3_ok nmX3 6 rfl (by decide) rfl rfl tw_150 rfl rfl dX8_bringToCaches_125 (fun H locs w => ?_)
    obtain ⟨m3, em3, h⟩ := wk_some h
    rw [em3] at w
    obtain ⟨rfl, -⟩ := Prod.mk.inj (Option.some.inj h)
    exact r_vret X M w dX8_bringToCaches_128
  · rw [if_neg c2] at h
    refine lv_aload_n X.1 X.2.1 dX8_bringToCaches_109 rfl (lv_at hl 0 rfl) ?_
    refine r_getr (b2 := 2) X w lyC_0 rfl inT8 1 rfl rfl (by decide) rfl tw_313 dX8_bringToCaches_110 ?_
    refine lv_iload_n X.1 X.2.1 dX8_bringToCaches_113 rfl (lv_at hl 1 rfl) ?_
    obtain ⟨hi4, h⟩ := gd_some h
    refine r_iald X w lyC_2 hi4 dX8_bringToCaches_114 ?_
    refine lv_iconst (v := (2 : Int32)) X.1 X.2.1 dX8_bringToCaches_115 (by decide) ?_
    refine lv_iand X.1 X.2.1 dX8_bringToCaches_116 ?_
    refine lv_if_eq (tgt := 124) X.1 X.2.1 dX8_bringToCaches_117 (by decide) (fun c5 => ?_) (fun c5 => ?_)
    · rw [if_pos c5] at h
      refine lv_iconst (v := (0 : Int32)) X.1 X.2.1 dX8_bringToCaches_124 (by decide) ?_
      refine r_put X w (lyPl hx7) rfl inT3 tyX3 tyX3_ok nmX3 6 rfl (by decide) rfl rfl tw_150 rfl rfl dX8_bringToCaches_125 (fun H locs w => ?_)
      obtain ⟨m6, em6, h⟩ := wk_some h
      rw [em6] at w
      obtain ⟨rfl, -⟩ := Prod.mk.inj (Option.some.inj h)
      exact r_vret X M w dX8_bringToCaches_128
    · rw [if_neg c5] at h
      refine lv_iconst (v := (1 : Int32)) X.1 X.2.1 dX8_bringToCaches_120 (by decide) ?_
      refine lv_goto (tgt := 125) X.1 X.2.1 dX8_bringToCaches_121 (by decide) ?_
      refine r_put X w (lyPl hx7) rfl inT3 tyX3 tyX3_ok nmX3 6 rfl (by decide) rfl rfl tw_150 rfl rfl dX8_bringToCaches_125 (fun H locs w => ?_)
      obtain ⟨m7, em7, h⟩ := wk_some h
      rw [em7] at w
      obtain ⟨rfl, -⟩ := Prod.mk.inj (Option.some.inj h)
      exact r_vret X M w dX8_bringToCaches_128
def fX8_bringToCaches_b40  (mem : Mm) (x1 : Nat) (x2 : Int32) (x3 : Int32) (x4 : Int32) (x5 : Int32) (s0 : Nat) : Option (Mm × Unit) :=
  bw (fX5_take mem s0 (mem x1 4) (mem x1 5) (fX8_firstOf (mem x1 1) (mem x1 5))) (fun m2 r1 => oc r1 (none) (fun b3 => wk m2 b3 4 (fX8_targetOf x4) (fun m4 => if x5 = 0 then fX8_bringToCaches_b99 m4 x2 x5 b3 b3 x3 else fX8_bringToCaches_b99 m4 x2 x5 b3 b3 (x3 ||| ((fX8_rightsOf x4) &&& (8 : Int32))))))
set_option maxRecDepth 100000 in
set_option maxHeartbeats 4000000 in
theorem wX8_bringToCaches_b40 {p : Program} {l : Launch} {e : Env} {s : State} {m : MethodId} {args : Array Value} {below : List Frame} {meth : Method} {c : Code} {D : va_G} {ca : Nat → ClassId} {ad : Nat → Nat} {cap : Nat} {H : Heap} {locs : List Loc} {ls : Array Slot} {mem : Mm} {x1 : Nat} {x2 : Int32} {x3 : Int32} {x4 : Int32} {x5 : Int32} {s0 : Nat}  {mem' : Mm} {r : Unit} (X : CallFix p m c cX8_bringToCaches 8 s args TT RX8) (M : Mt meth none)  (hx1 : isWk x1) (hs0 : isSt s0) (w : Wd D ca ad (layC cap) (AA ad (layC cap).length) s.heap s mem H locs) (hl : lv_has ls 8 [(0, .ref (ad 0)), (1, .ref (ad x1)), (2, .int x2), (3, .int x3), (4, .int x4), (5, .int x5)]) (h : fX8_bringToCaches_b40  mem x1 x2 x3 x4 x5 s0 = some (mem', r)) : W p l e (rmx 3 62) s m args below meth c H locs 0 0 (EndV D ca ad (layC cap) mem' below args s) (F0 m 40 ls [.ref (ad s0)]) := by
  unfold fX8_bringToCaches_b40 at h
  refine lv_astore (lv' := [(6, .ref (ad s0)), (0, .ref (ad 0)), (1, .ref (ad x1)), (2, .int x2), (3, .int x3), (4, .int x4), (5, .int x5)]) X.1 X.2.1 dX8_bringToCaches_40 hl (by decide) rfl (fun ls hl => ?_)
  refine lv_aload X.1 X.2.1 dX8_bringToCaches_42 (lv_at hl 0 rfl) ?_
  refine lv_aload_n X.1 X.2.1 dX8_bringToCaches_44 rfl (lv_at hl 2 rfl) ?_
  refine r_get X w (lyWk hx1) rfl inT6 4 rfl (by decide) rfl tw_194 dX8_bringToCaches_45 ?_
  refine lv_aload_n X.1 X.2.1 dX8_bringToCaches_48 rfl (lv_at hl 2 rfl) ?_
  refine r_get X w (lyWk hx1) rfl inT6 5 rfl (by decide) rfl tw_196 dX8_bringToCaches_49 ?_
  refine lv_aload_n X.1 X.2.1 dX8_bringToCaches_52 rfl (lv_at hl 2 rfl) ?_
  refine r_get X w (lyWk hx1) rfl inT6 1 rfl (by decide) rfl tw_188 dX8_bringToCaches_53 ?_
  refine lv_aload_n X.1 X.2.1 dX8_bringToCaches_56 rfl (lv_at hl 2 rfl) ?_
  refine r_get X w (lyWk hx1) rfl inT6 5 rfl (by decide) rfl tw_196 dX8_bringToCaches_57 ?_
  refine r_cSi (As := [.int (mem x1 1), .int (mem x1 5)]) (rest := [.int (mem x1 5), .int (mem x1 4), .ref (ad s0)]) X w (kX8_firstOf (cap := cap) l D ca ad mem (mem x1 1) (mem x1 5)  rfl) (gTS tw_509 tw_462 tw_65 tw_463) hdX8_firstOf (by decide) rfl hl.1 rfl (Nat.le_of_ble_eq_true rfl) dX8_bringToCaches_60 ⟨Nat.zero_le _, Nat.zero_le _⟩ (fun H locs w => ?_)
  obtain ⟨m2, r1, hr1, h⟩ := bw_some h
  refine r_cVq (As := [.int (mem x1 4), .int (mem x1 5), .int (fX8_firstOf (mem x1 1) (mem x1 5))]) (rest := []) X w (lySt hs0) rfl (kX5_take (cap := cap) l D ca ad mem s0 (mem x1 4) (mem x1 5) (fX8_firstOf (mem x1 1) (mem x1 5)) hs0 hr1) (gTV tw_555 tw_556 tw_557 tw_68 tw_558) hdX5_take (by decide) rfl hl.1 rfl (Nat.le_of_ble_eq_true rfl) dX8_bringToCaches_63 ⟨Nat.zero_le _, Nat.zero_le _⟩ (fun H locs w => ?_)
  rcases r1 with _ | b3
  · have h := oc_n h
    refine lv_astoreN (lv' := [(7, .null), (6, .ref (ad s0)), (0, .ref (ad 0)), (1, .ref (ad x1)), (2, .int x2), (3, .int x3), (4, .int x4), (5, .int x5)]) X.1 X.2.1 dX8_bringToCaches_66 hl (by decide) rfl (fun ls hl => ?_)
    refine lv_aloadN X.1 X.2.1 dX8_bringToCaches_68 (lv_at hl 0 rfl) ?_
    refine lv_iload X.1 X.2.1 dX8_bringToCaches_70 (lv_at hl 6 rfl) ?_
    refine r_cSi (As := [.int x4]) (rest := [.null]) X w (kX8_targetOf (cap := cap) l D ca ad m2 x4  rfl) (gTS tw_565 tw_566 tw_65 tw_567) hdX8_targetOf (by decide) rfl hl.1 rfl (Nat.le_of_ble_eq_true rfl) dX8_bringToCaches_72 ⟨Nat.zero_le _, Nat.zero_le _⟩ (fun H locs w => ?_)
    cases h
  · obtain ⟨hb3, h⟩ := oc_s h
    refine lv_astore (lv' := [(7, .ref (ad b3)), (6, .ref (ad s0)), (0, .ref (ad 0)), (1, .ref (ad x1)), (2, .int x2), (3, .int x3), (4, .int x4), (5, .int x5)]) X.1 X.2.1 dX8_bringToCaches_66 hl (by decide) rfl (fun ls hl => ?_)
    refine lv_aload X.1 X.2.1 dX8_bringToCaches_68 (lv_at hl 0 rfl) ?_
    refine lv_iload X.1 X.2.1 dX8_bringToCaches_70 (lv_at hl 6 rfl) ?_
    refine r_cSi (As := [.int x4]) (rest := [.ref (ad b3)]) X w (kX8_targetOf (cap := cap) l D ca ad m2 x4  rfl) (gTS tw_565 tw_566 tw_65 tw_567) hdX8_targetOf (by decide) rfl hl.1 rfl (Nat.le_of_ble_eq_true rfl) dX8_bringToCaches_72 ⟨Nat.zero_le _, Nat.zero_le _⟩ (fun H locs w => ?_)
    refine r_put X w (lyPl hb3) rfl inT3 tyX3 tyX3_ok nmX3 4 rfl (by decide) rfl rfl tw_146 rfl rfl dX8_bringToCaches_75 (fun H locs w => ?_)
    obtain ⟨m4, em4, h⟩ := wk_some h
    rw [em4] at w
    refine lv_aload X.1 X.2.1 dX8_bringToCaches_78 (lv_at hl 0 rfl) ?_
    refine lv_iload X.1 X.2.1 dX8_bringToCaches_80 (lv_at hl 7 rfl) ?_
    refine lv_if_eq (tgt := 98) X.1 X.2.1 dX8_bringToCaches_82 (by decide) (fun c5 => ?_) (fun c5 => ?_)
    · rw [if_pos c5] at h
      refine lv_iload_n X.1 X.2.1 dX8_bringToCaches_98 rfl (lv_at hl 5 rfl) ?_
      exact wX8_bringToCaches_b99 X M hb3 hb3 w (lv_sub hl [2, 4, 7, 0] rfl) h
    · rw [if_neg c5] at h
      refine lv_iload_n X.1 X.2.1 dX8_bringToCaches_85 rfl (lv_at hl 5 rfl) ?_
      refine lv_iload X.1 X.2.1 dX8_bringToCaches_86 (lv_at hl 6 rfl) ?_
      refine r_cSi (As := [.int x4]) (rest := [.int x3, .ref (ad b3)]) X w (kX8_rightsOf (cap := cap) l D ca ad m4 x4  rfl) (gTS tw_537 tw_538 tw_65 tw_539) hdX8_rightsOf (by decide) rfl hl.1 rfl (Nat.le_of_ble_eq_true rfl) dX8_bringToCaches_88 ⟨Nat.zero_le _, Nat.zero_le _⟩ (fun H locs w => ?_)
      refine lv_bipush (v := (8 : Int32)) X.1 X.2.1 dX8_bringToCaches_91 (by decide) ?_
      refine lv_iand X.1 X.2.1 dX8_bringToCaches_93 ?_
      refine lv_ior X.1 X.2.1 dX8_bringToCaches_94 ?_
      refine lv_goto (tgt := 99) X.1 X.2.1 dX8_bringToCaches_95 (by decide) ?_
      exact wX8_bringToCaches_b99 X M hb3 hb3 w (lv_sub hl [2, 4, 7, 0] rfl) h
def fX8_bringToCaches_b22  (mem : Mm) (x1 : Nat) (x2 : Int32) (x3 : Int32) (x4 : Int32) (s0 : Int32) : Option (Mm × Unit) :=
  if s0 = 0 then fX8_bringToCaches_b40 mem x1 x2 x3 x4 s0 15 else fX8_bringToCaches_b40 mem x1 x2 x3 x4 s0 7
set_option maxRecDepth 100000 in
set_option maxHeartbeats 4000000 in
theorem wX8_bringToCaches_b22 {p : Program} {l : Launch} {e : Env} {s : State} {m : MethodId} {args : Array Value} {below : List Frame} {meth : Method} {c : Code} {D : va_G} {ca : Nat → ClassId} {ad : Nat → Nat} {cap : Nat} {H : Heap} {locs : List Loc} {ls : Array Slot} {mem : Mm} {x1 : Nat} {x2 : Int32} {x3 : Int32} {x4 : Int32} {s0 : Int32}  {mem' : Mm} {r : Unit} (X : CallFix p m c cX8_bringToCaches 8 s args TT RX8) (M : Mt meth none)  (hx1 : isWk x1) (w : Wd D ca ad (layC cap) (AA ad (layC cap).length) s.heap s mem H locs) (hl : lv_has ls 8 [(0, .ref (ad 0)), (1, .ref (ad x1)), (2, .int x2), (3, .int x3), (4, .int x4)]) (h : fX8_bringToCaches_b22  mem x1 x2 x3 x4 s0 = some (mem', r)) : W p l e (rmx 3 62) s m args below meth c H locs 0 0 (EndV D ca ad (layC cap) mem' below args s) (F0 m 22 ls [.int s0]) := by
  unfold fX8_bringToCaches_b22 at h
  refine lv_istore (lv' := [(5, .int s0), (0, .ref (ad 0)), (1, .ref (ad x1)), (2, .int x2), (3, .int x3), (4, .int x4)]) X.1 X.2.1 dX8_bringToCaches_22 hl (by decide) rfl (fun ls hl => ?_)
  refine lv_iload X.1 X.2.1 dX8_bringToCaches_24 (lv_at hl 0 rfl) ?_
  refine lv_if_eq (tgt := 36) X.1 X.2.1 dX8_bringToCaches_26 (by decide) (fun c1 => ?_) (fun c1 => ?_)
  · rw [if_pos c1] at h
    refine lv_aload_n X.1 X.2.1 dX8_bringToCaches_36 rfl (lv_at hl 1 rfl) ?_
    refine r_getr (b2 := 15) X w lyC_0 rfl inT8 4 rfl rfl (by decide) rfl tw_316 dX8_bringToCaches_37 ?_
    exact wX8_bringToCaches_b40 X M hx1 isSt15 w (lv_sub hl [1, 2, 3, 4, 5, 0] rfl) h
  · rw [if_neg c1] at h
    refine lv_aload_n X.1 X.2.1 dX8_bringToCaches_29 rfl (lv_at hl 1 rfl) ?_
    refine r_getr (b2 := 7) X w lyC_0 rfl inT8 3 rfl rfl (by decide) rfl tw_315 dX8_bringToCaches_30 ?_
    refine lv_goto (tgt := 40) X.1 X.2.1 dX8_bringToCaches_33 (by decide) ?_
    exact wX8_bringToCaches_b40 X M hx1 isSt7 w (lv_sub hl [1, 2, 3, 4, 5, 0] rfl) h
def fX8_bringToCaches (mem : Mm) (a1 : Nat) (a2 : Int32) (a3 : Int32) : Option (Mm × Unit) :=
  gd a2 96 (lk (mem 1 a2.toNatClampNeg) (fun x_2 => if (fX8_kindOf x_2) = (2 : Int32) then fX8_bringToCaches_b22 mem a1 a2 a3 x_2 (1 : Int32) else fX8_bringToCaches_b22 mem a1 a2 a3 x_2 (0 : Int32)))
set_option maxRecDepth 100000 in
set_option maxHeartbeats 4000000 in
theorem kX8_bringToCaches {cap : Nat} (l : Launch) (D : va_G) (ca : Nat → ClassId) (ad : Nat → Nat) (mem : Mm) (a1 : Nat) (a2 : Int32) (a3 : Int32) (h1 : isWk a1) {mem' : Mm} {r : Unit} (h : fX8_bringToCaches mem a1 a2 a3 = some (mem', r)) : CtV l yX8_bringToCaches cX8_bringToCaches 8 none (rmx 3 62) D ca ad (layC cap) mem [.ref (ad 0), .ref (ad a1), .int a2, .int a3] mem' := by
  refine CtV.of (by decide) (Nat.le_of_ble_eq_true rfl) ?_
  intro p e s m args below meth c H locs ls X M w hl
  replace X : CallFix p m c cX8_bringToCaches 8 s args TT RX8 := X
  replace hl : lv_has ls 8 [(0, .ref (ad 0)), (1, .ref (ad a1)), (2, .int a2), (3, .int a3)] := hl
  unfold fX8_bringToCaches at h
  refine lv_aload_n X.1 X.2.1 dX8_bringToCaches_0 rfl (lv_at hl 0 rfl) ?_
  refine r_getr (b2 := 1) X w lyC_0 rfl inT8 0 rfl rfl (by decide) rfl tw_312 dX8_bringToCaches_1 ?_
  refine lv_iload_n X.1 X.2.1 dX8_bringToCaches_4 rfl (lv_at hl 2 rfl) ?_
  obtain ⟨hi1, h⟩ := gd_some h
  refine r_iald X w lyC_1 hi1 dX8_bringToCaches_5 ?_
  obtain ⟨x_2, ex_2, h⟩ := lk_some h
  refine lv_name ex_2 ?_
  refine lv_istore (lv' := [(4, .int x_2), (0, .ref (ad 0)), (1, .ref (ad a1)), (2, .int a2), (3, .int a3)]) X.1 X.2.1 dX8_bringToCaches_6 hl (by decide) rfl (fun ls hl => ?_)
  refine lv_iload X.1 X.2.1 dX8_bringToCaches_8 (lv_at hl 0 rfl) ?_
  refine r_cSi (As := [.int x_2]) (rest := []) X w (kX8_kindOf (cap := cap) l D ca ad mem x_2  rfl) (gTS tw_381 tw_382 tw_65 tw_383) hdX8_kindOf (by decide) rfl hl.1 rfl (Nat.le_of_ble_eq_true rfl) dX8_bringToCaches_10 ⟨Nat.zero_le _, Nat.zero_le _⟩ (fun H locs w => ?_)
  refine lv_iconst (v := (2 : Int32)) X.1 X.2.1 dX8_bringToCaches_13 (by decide) ?_
  refine lv_icmp_ne (tgt := 21) X.1 X.2.1 dX8_bringToCaches_14 (by decide) (fun c3 => ?_) (fun c3 => ?_)
  · rw [if_neg c3] at h
    refine lv_iconst (v := (0 : Int32)) X.1 X.2.1 dX8_bringToCaches_21 (by decide) ?_
    exact wX8_bringToCaches_b22 X M h1 w (lv_sub hl [1, 2, 3, 4, 0] rfl) h
  · rw [if_pos c3] at h
    refine lv_iconst (v := (1 : Int32)) X.1 X.2.1 dX8_bringToCaches_17 (by decide) ?_
    refine lv_goto (tgt := 22) X.1 X.2.1 dX8_bringToCaches_18 (by decide) ?_
    exact wX8_bringToCaches_b22 X M h1 w (lv_sub hl [1, 2, 3, 4, 0] rfl) h
/-! WalkHouse.readEntry(LWalkHouse$Walk;Z)V (W) -/
theorem hdX8_readEntry : yX8_readEntry.cls = RX8 ∧ yX8_readEntry.cls ≠ "java/lang/invoke/MethodHandle" ∧ yX8_readEntry.cls ≠ "java/lang/invoke/VarHandle" ∧ (parseMethodDescriptor yX8_readEntry.desc).map (fun d => d.parameters.length) = some 2 := by decide +kernel
def fX8_readEntry_b118  (mem : Mm) (x1 : Nat) (x3 : Int32) (x4 : Int32) (x5 : Int32) : Option (Mm × Unit) :=
  gd (mem x1 5) 3 (wk mem (x1 + 1) (mem x1 5).toNatClampNeg x3 (fun m2 => if (fX8_kindOf x4) = (2 : Int32) then bw (fX6_finish m2 x1 ((fX8_targetOf x4) + (fX8_restOf (m2 x1 1) (m2 x1 5)))) (fun m7 r6 => some (m7, ())) else bw (fX6_leadOn m2 x1 ((m2 x1 5) - (1 : Int32)) (fX8_targetOf x4) x5) (fun m5 r4 => some (m5, ()))))
set_option maxRecDepth 100000 in
set_option maxHeartbeats 4000000 in
theorem wX8_readEntry_b118 {p : Program} {l : Launch} {e : Env} {s : State} {m : MethodId} {args : Array Value} {below : List Frame} {meth : Method} {c : Code} {D : va_G} {ca : Nat → ClassId} {ad : Nat → Nat} {cap : Nat} {H : Heap} {locs : List Loc} {ls : Array Slot} {mem : Mm} {x1 : Nat} {x3 : Int32} {x4 : Int32} {x5 : Int32}  {mem' : Mm} {r : Unit} (X : CallFix p m c cX8_readEntry 7 s args TT RX8) (M : Mt meth none)  (hx1 : isWk x1) (w : Wd D ca ad (layC cap) (AA ad (layC cap).length) s.heap s mem H locs) (hl : lv_has ls 7 [(1, .ref (ad x1)), (3, .int x3), (4, .int x4), (5, .int x5)]) (h : fX8_readEntry_b118  mem x1 x3 x4 x5 = some (mem', r)) : W p l e (rmx 4 89) s m args below meth c H locs 0 0 (EndV D ca ad (layC cap) mem' below args s) (F0 m 118 ls []) := by
  unfold fX8_readEntry_b118 at h
  refine lv_aload_n X.1 X.2.1 dX8_readEntry_118 rfl (lv_at hl 0 rfl) ?_
  refine r_getr (b2 := (x1 + 1)) X w (lyWk hx1) rfl inT6 10 rfl rfl (by decide) rfl tw_206 dX8_readEntry_119 ?_
  refine lv_aload_n X.1 X.2.1 dX8_readEntry_122 rfl (lv_at hl 0 rfl) ?_
  refine r_get X w (lyWk hx1) rfl inT6 5 rfl (by decide) rfl tw_196 dX8_readEntry_123 ?_
  refine lv_iload_n X.1 X.2.1 dX8_readEntry_126 rfl (lv_at hl 1 rfl) ?_
  obtain ⟨hi1, h⟩ := gd_some h
  refine r_iast X w (lyWC hx1) hi1 dX8_readEntry_127 (fun H locs w => ?_)
  obtain ⟨m2, em2, h⟩ := wk_some h
  rw [em2] at w
  refine lv_iload X.1 X.2.1 dX8_readEntry_128 (lv_at hl 2 rfl) ?_
  refine r_cSi (As := [.int x4]) (rest := []) X w (kX8_kindOf (cap := cap) l D ca ad m2 x4  rfl) (gTS tw_381 tw_382 tw_65 tw_383) hdX8_kindOf (by decide) rfl hl.1 rfl (Nat.le_of_ble_eq_true rfl) dX8_readEntry_130 ⟨Nat.zero_le _, Nat.zero_le _⟩ (fun H locs w => ?_)
  refine lv_iconst (v := (2 : Int32)) X.1 X.2.1 dX8_readEntry_133 (by decide) ?_
  refine lv_icmp_ne (tgt := 161) X.1 X.2.1 dX8_readEntry_134 (by decide) (fun c3 => ?_) (fun c3 => ?_)
  · rw [if_neg c3] at h
    refine lv_aload_n X.1 X.2.1 dX8_readEntry_161 rfl (lv_at hl 0 rfl) ?_
    refine lv_aload_n X.1 X.2.1 dX8_readEntry_162 rfl (lv_at hl 0 rfl) ?_
    refine r_get X w (lyWk hx1) rfl inT6 5 rfl (by decide) rfl tw_196 dX8_readEntry_163 ?_
    refine lv_iconst (v := (1 : Int32)) X.1 X.2.1 dX8_readEntry_166 (by decide) ?_
    refine lv_isub X.1 X.2.1 dX8_readEntry_167 ?_
    refine lv_iload X.1 X.2.1 dX8_readEntry_168 (lv_at hl 2 rfl) ?_
    refine r_cSi (As := [.int x4]) (rest := [.int ((m2 x1 5) - (1 : Int32)), .ref (ad x1)]) X w (kX8_targetOf (cap := cap) l D ca ad m2 x4  rfl) (gTS tw_565 tw_566 tw_65 tw_567) hdX8_targetOf (by decide) rfl hl.1 rfl (Nat.le_of_ble_eq_true rfl) dX8_readEntry_170 ⟨Nat.zero_le _, Nat.zero_le _⟩ (fun H locs w => ?_)
    refine lv_iload X.1 X.2.1 dX8_readEntry_173 (lv_at hl 3 rfl) ?_
    obtain ⟨m5, r4, hr4, h⟩ := bw_some h
    refine r_cVv (As := [.int ((m2 x1 5) - (1 : Int32)), .int (fX8_targetOf x4), .int x5]) (rest := []) X w (lyWk hx1) rfl (kX6_leadOn (cap := cap) l D ca ad m2 x1 ((m2 x1 5) - (1 : Int32)) (fX8_targetOf x4) x5 hx1 hr4) (gTV tw_514 tw_515 tw_516 tw_70 tw_517) hdX6_leadOn (by decide) rfl hl.1 rfl (Nat.le_of_ble_eq_true rfl) dX8_readEntry_175 ⟨Nat.zero_le _, Nat.zero_le _⟩ (fun H locs w => ?_)
    obtain ⟨rfl, -⟩ := Prod.mk.inj (Option.some.inj h)
    exact r_vret X M w dX8_readEntry_178
  · rw [if_pos c3] at h
    refine lv_aload_n X.1 X.2.1 dX8_readEntry_137 rfl (lv_at hl 0 rfl) ?_
    refine lv_iload X.1 X.2.1 dX8_readEntry_138 (lv_at hl 2 rfl) ?_
    refine r_cSi (As := [.int x4]) (rest := [.ref (ad x1)]) X w (kX8_targetOf (cap := cap) l D ca ad m2 x4  rfl) (gTS tw_565 tw_566 tw_65 tw_567) hdX8_targetOf (by decide) rfl hl.1 rfl (Nat.le_of_ble_eq_true rfl) dX8_readEntry_140 ⟨Nat.zero_le _, Nat.zero_le _⟩ (fun H locs w => ?_)
    refine lv_aload_n X.1 X.2.1 dX8_readEntry_143 rfl (lv_at hl 0 rfl) ?_
    refine r_get X w (lyWk hx1) rfl inT6 1 rfl (by decide) rfl tw_188 dX8_readEntry_144 ?_
    refine lv_aload_n X.1 X.2.1 dX8_readEntry_147 rfl (lv_at hl 0 rfl) ?_
    refine r_get X w (lyWk hx1) rfl inT6 5 rfl (by decide) rfl tw_196 dX8_readEntry_148 ?_
    refine r_cSi (As := [.int (m2 x1 1), .int (m2 x1 5)]) (rest := [.int (fX8_targetOf x4), .ref (ad x1)]) X w (kX8_restOf (cap := cap) l D ca ad m2 (m2 x1 1) (m2 x1 5)  rfl) (gTS tw_464 tw_465 tw_65 tw_466) hdX8_restOf (by decide) rfl hl.1 rfl (Nat.le_of_ble_eq_true rfl) dX8_readEntry_151 ⟨Nat.zero_le _, Nat.zero_le _⟩ (fun H locs w => ?_)
    refine lv_iadd X.1 X.2.1 dX8_readEntry_154 ?_
    obtain ⟨m7, r6, hr6, h⟩ := bw_some h
    refine r_cVv (As := [.int ((fX8_targetOf x4) + (fX8_restOf (m2 x1 1) (m2 x1 5)))]) (rest := []) X w (lyWk hx1) rfl (kX6_finish (cap := cap) l D ca ad m2 x1 ((fX8_targetOf x4) + (fX8_restOf (m2 x1 1) (m2 x1 5))) hx1 hr6) (gTV tw_568 tw_569 tw_570 tw_70 tw_571) hdX6_finish (by decide) rfl hl.1 rfl (Nat.le_of_ble_eq_true rfl) dX8_readEntry_155 ⟨Nat.zero_le _, Nat.zero_le _⟩ (fun H locs w => ?_)
    refine lv_goto (tgt := 178) X.1 X.2.1 dX8_readEntry_158 (by decide) ?_
    obtain ⟨rfl, -⟩ := Prod.mk.inj (Option.some.inj h)
    exact r_vret X M w dX8_readEntry_178
def fX8_readEntry_b95  (mem : Mm) (x1 : Nat) (x2 : Int32) (x3 : Int32) (x4 : Int32) (x5 : Int32) : Option (Mm × Unit) :=
  if x2 = 0 then fX8_readEntry_b118 mem x1 x3 x4 x5 else gd x3 96 (if ((mem 2 x3.toNatClampNeg) &&& (1 : Int32)) = 0 then fX8_readEntry_b118 mem x1 x3 x4 x5 else bw (fX8_bringToCaches mem x1 x3 x5) (fun m5 r4 => fX8_readEntry_b118 m5 x1 x3 x4 x5))
set_option maxRecDepth 100000 in
set_option maxHeartbeats 4000000 in
theorem wX8_readEntry_b95 {p : Program} {l : Launch} {e : Env} {s : State} {m : MethodId} {args : Array Value} {below : List Frame} {meth : Method} {c : Code} {D : va_G} {ca : Nat → ClassId} {ad : Nat → Nat} {cap : Nat} {H : Heap} {locs : List Loc} {ls : Array Slot} {mem : Mm} {x1 : Nat} {x2 : Int32} {x3 : Int32} {x4 : Int32} {x5 : Int32}  {mem' : Mm} {r : Unit} (X : CallFix p m c cX8_readEntry 7 s args TT RX8) (M : Mt meth none)  (hx1 : isWk x1) (w : Wd D ca ad (layC cap) (AA ad (layC cap).length) s.heap s mem H locs) (hl : lv_has ls 7 [(0, .ref (ad 0)), (1, .ref (ad x1)), (2, .int x2), (3, .int x3), (4, .int x4), (5, .int x5)]) (h : fX8_readEntry_b95  mem x1 x2 x3 x4 x5 = some (mem', r)) : W p l e (rmx 4 89) s m args below meth c H locs 0 0 (EndV D ca ad (layC cap) mem' below args s) (F0 m 95 ls []) := by
  unfold fX8_readEntry_b95 at h
  refine lv_iload_n X.1 X.2.1 dX8_readEntry_95 rfl (lv_at hl 2 rfl) ?_
  refine lv_if_eq (tgt := 118) X.1 X.2.1 dX8_readEntry_96 (by decide) (fun c1 => ?_) (fun c1 => ?_)
  · rw [if_pos c1] at h
    exact wX8_readEntry_b118 X M hx1 w (lv_sub hl [1, 3, 4, 5] rfl) h
  · rw [if_neg c1] at h
    refine lv_aload_n X.1 X.2.1 dX8_readEntry_99 rfl (lv_at hl 0 rfl) ?_
    refine r_getr (b2 := 2) X w lyC_0 rfl inT8 1 rfl rfl (by decide) rfl tw_313 dX8_readEntry_100 ?_
    refine lv_iload_n X.1 X.2.1 dX8_readEntry_103 rfl (lv_at hl 3 rfl) ?_
    obtain ⟨hi2, h⟩ := gd_some h
    refine r_iald X w lyC_2 hi2 dX8_readEntry_104 ?_
    refine lv_iconst (v := (1 : Int32)) X.1 X.2.1 dX8_readEntry_105 (by decide) ?_
    refine lv_iand X.1 X.2.1 dX8_readEntry_106 ?_
    refine lv_if_eq (tgt := 118) X.1 X.2.1 dX8_readEntry_107 (by decide) (fun c3 => ?_) (fun c3 => ?_)
    · rw [if_pos c3] at h
      exact wX8_readEntry_b118 X M hx1 w (lv_sub hl [1, 3, 4, 5] rfl) h
    · rw [if_neg c3] at h
      refine lv_aload_n X.1 X.2.1 dX8_readEntry_110 rfl (lv_at hl 0 rfl) ?_
      refine lv_aload_n X.1 X.2.1 dX8_readEntry_111 rfl (lv_at hl 1 rfl) ?_
      refine lv_iload_n X.1 X.2.1 dX8_readEntry_112 rfl (lv_at hl 3 rfl) ?_
      refine lv_iload X.1 X.2.1 dX8_readEntry_113 (lv_at hl 5 rfl) ?_
      obtain ⟨m5, r4, hr4, h⟩ := bw_some h
      refine r_cVv (As := [.ref (ad x1), .int x3, .int x5]) (rest := []) X w lyC_0 rfl (kX8_bringToCaches (cap := cap) l D ca ad mem x1 x3 x5 hx1 hr4) (gTV tw_551 tw_553 tw_12 tw_65 tw_554) hdX8_bringToCaches (by decide) rfl hl.1 rfl (Nat.le_of_ble_eq_true rfl) dX8_readEntry_115 ⟨Nat.zero_le _, Nat.zero_le _⟩ (fun H locs w => ?_)
      exact wX8_readEntry_b118 X M hx1 w (lv_sub hl [1, 3, 4, 5] rfl) h
def fX8_readEntry (mem : Mm) (a1 : Nat) (a2 : Int32) : Option (Mm × Unit) :=
  lk (fX8_cellOf (mem a1 6) (fX8_digitOf (mem a1 1) (mem a1 5))) (fun x_1 => gd x_1 96 (lk (mem 1 x_1.toNatClampNeg) (fun x_3 => lk ((mem a1 7) &&& (fX8_rightsOf x_3)) (fun x_4 => wk mem a1 8 ((mem a1 8) + (1 : Int32)) (fun m5 => lk (fX8_faultOf x_3 (m5 a1 5) ((m5 a1 2) &&& (x_4 ^^^ (-1 : Int32)))) (fun x_6 => if x_6 = 0 then if (m5 a1 3) = 0 then bw (fX8_setMarks m5 a1 x_1 a2) (fun m10 r9 => fX8_readEntry_b95 m10 a1 a2 x_1 x_3 x_4) else fX8_readEntry_b95 m5 a1 a2 x_1 x_3 x_4 else bw (fX6_fail m5 a1 x_6) (fun m12 r11 => some (m12, ()))))))))
set_option maxRecDepth 100000 in
set_option maxHeartbeats 4000000 in
theorem kX8_readEntry {cap : Nat} (l : Launch) (D : va_G) (ca : Nat → ClassId) (ad : Nat → Nat) (mem : Mm) (a1 : Nat) (a2 : Int32) (h1 : isWk a1) {mem' : Mm} {r : Unit} (h : fX8_readEntry mem a1 a2 = some (mem', r)) : CtV l yX8_readEntry cX8_readEntry 7 none (rmx 4 89) D ca ad (layC cap) mem [.ref (ad 0), .ref (ad a1), .int a2] mem' := by
  refine CtV.of (by decide) (Nat.le_of_ble_eq_true rfl) ?_
  intro p e s m args below meth c H locs ls X M w hl
  replace X : CallFix p m c cX8_readEntry 7 s args TT RX8 := X
  replace hl : lv_has ls 7 [(0, .ref (ad 0)), (1, .ref (ad a1)), (2, .int a2)] := hl
  unfold fX8_readEntry at h
  refine lv_aload_n X.1 X.2.1 dX8_readEntry_0 rfl (lv_at hl 1 rfl) ?_
  refine r_get X w (lyWk h1) rfl inT6 6 rfl (by decide) rfl tw_198 dX8_readEntry_1 ?_
  refine lv_aload_n X.1 X.2.1 dX8_readEntry_4 rfl (lv_at hl 1 rfl) ?_
  refine r_get X w (lyWk h1) rfl inT6 1 rfl (by decide) rfl tw_188 dX8_readEntry_5 ?_
  refine lv_aload_n X.1 X.2.1 dX8_readEntry_8 rfl (lv_at hl 1 rfl) ?_
  refine r_get X w (lyWk h1) rfl inT6 5 rfl (by decide) rfl tw_196 dX8_readEntry_9 ?_
  refine r_cSi (As := [.int (mem a1 1), .int (mem a1 5)]) (rest := [.int (mem a1 6)]) X w (kX8_digitOf (cap := cap) l D ca ad mem (mem a1 1) (mem a1 5)  rfl) (gTS tw_534 tw_535 tw_65 tw_536) hdX8_digitOf (by decide) rfl hl.1 rfl (Nat.le_of_ble_eq_true rfl) dX8_readEntry_12 ⟨Nat.zero_le _, Nat.zero_le _⟩ (fun H locs w => ?_)
  refine r_cSi (As := [.int (mem a1 6), .int (fX8_digitOf (mem a1 1) (mem a1 5))]) (rest := []) X w (kX8_cellOf (cap := cap) l D ca ad mem (mem a1 6) (fX8_digitOf (mem a1 1) (mem a1 5))  rfl) (gTS tw_371 tw_372 tw_65 tw_373) hdX8_cellOf (by decide) rfl hl.1 rfl (Nat.le_of_ble_eq_true rfl) dX8_readEntry_15 ⟨Nat.zero_le _, Nat.zero_le _⟩ (fun H locs w => ?_)
  obtain ⟨x_1, ex_1, h⟩ := lk_some h
  refine lv_name ex_1 ?_
  refine lv_istore_n (lv' := [(3, .int x_1), (0, .ref (ad 0)), (1, .ref (ad a1)), (2, .int a2)]) X.1 X.2.1 dX8_readEntry_18 rfl hl (by decide) rfl (fun ls hl => ?_)
  refine lv_aload_n X.1 X.2.1 dX8_readEntry_19 rfl (lv_at hl 1 rfl) ?_
  refine r_getr (b2 := 1) X w lyC_0 rfl inT8 0 rfl rfl (by decide) rfl tw_312 dX8_readEntry_20 ?_
  refine lv_iload_n X.1 X.2.1 dX8_readEntry_23 rfl (lv_at hl 0 rfl) ?_
  obtain ⟨hi2, h⟩ := gd_some h
  refine r_iald X w lyC_1 hi2 dX8_readEntry_24 ?_
  obtain ⟨x_3, ex_3, h⟩ := lk_some h
  refine lv_name ex_3 ?_
  refine lv_istore (lv' := [(4, .int x_3), (3, .int x_1), (0, .ref (ad 0)), (1, .ref (ad a1)), (2, .int a2)]) X.1 X.2.1 dX8_readEntry_25 hl (by decide) rfl (fun ls hl => ?_)
  refine lv_aload_n X.1 X.2.1 dX8_readEntry_27 rfl (lv_at hl 3 rfl) ?_
  refine r_get X w (lyWk h1) rfl inT6 7 rfl (by decide) rfl tw_200 dX8_readEntry_28 ?_
  refine lv_iload X.1 X.2.1 dX8_readEntry_31 (lv_at hl 0 rfl) ?_
  refine r_cSi (As := [.int x_3]) (rest := [.int (mem a1 7)]) X w (kX8_rightsOf (cap := cap) l D ca ad mem x_3  rfl) (gTS tw_537 tw_538 tw_65 tw_539) hdX8_rightsOf (by decide) rfl hl.1 rfl (Nat.le_of_ble_eq_true rfl) dX8_readEntry_33 ⟨Nat.zero_le _, Nat.zero_le _⟩ (fun H locs w => ?_)
  refine lv_iand X.1 X.2.1 dX8_readEntry_36 ?_
  obtain ⟨x_4, ex_4, h⟩ := lk_some h
  refine lv_name ex_4 ?_
  refine lv_istore (lv' := [(5, .int x_4), (4, .int x_3), (3, .int x_1), (0, .ref (ad 0)), (1, .ref (ad a1)), (2, .int a2)]) X.1 X.2.1 dX8_readEntry_37 hl (by decide) rfl (fun ls hl => ?_)
  refine lv_aload_n X.1 X.2.1 dX8_readEntry_39 rfl (lv_at hl 4 rfl) ?_
  refine lv_dup X.1 X.2.1 dX8_readEntry_40 rfl ?_
  refine r_get X w (lyWk h1) rfl inT6 8 rfl (by decide) rfl tw_202 dX8_readEntry_41 ?_
  refine lv_iconst (v := (1 : Int32)) X.1 X.2.1 dX8_readEntry_44 (by decide) ?_
  refine lv_iadd X.1 X.2.1 dX8_readEntry_45 ?_
  refine r_put X w (lyWk h1) rfl inT6 tyX6 tyX6_ok nmX6 8 rfl (by decide) rfl rfl tw_202 rfl rfl dX8_readEntry_46 (fun H locs w => ?_)
  obtain ⟨m5, em5, h⟩ := wk_some h
  rw [em5] at w
  refine lv_iload X.1 X.2.1 dX8_readEntry_49 (lv_at hl 1 rfl) ?_
  refine lv_aload_n X.1 X.2.1 dX8_readEntry_51 rfl (lv_at hl 4 rfl) ?_
  refine r_get X w (lyWk h1) rfl inT6 5 rfl (by decide) rfl tw_196 dX8_readEntry_52 ?_
  refine lv_aload_n X.1 X.2.1 dX8_readEntry_55 rfl (lv_at hl 4 rfl) ?_
  refine r_get X w (lyWk h1) rfl inT6 2 rfl (by decide) rfl tw_190 dX8_readEntry_56 ?_
  refine lv_iload X.1 X.2.1 dX8_readEntry_59 (lv_at hl 0 rfl) ?_
  refine lv_iconst (v := (-1 : Int32)) X.1 X.2.1 dX8_readEntry_61 (by decide) ?_
  refine lv_ixor X.1 X.2.1 dX8_readEntry_62 ?_
  refine lv_iand X.1 X.2.1 dX8_readEntry_63 ?_
  refine r_cSi (As := [.int x_3, .int (m5 a1 5), .int ((m5 a1 2) &&& (x_4 ^^^ (-1 : Int32)))]) (rest := []) X w (kX8_faultOf (cap := cap) l D ca ad m5 x_3 (m5 a1 5) ((m5 a1 2) &&& (x_4 ^^^ (-1 : Int32)))  rfl) (gTS tw_540 tw_541 tw_65 tw_542) hdX8_faultOf (by decide) rfl hl.1 rfl (Nat.le_of_ble_eq_true rfl) dX8_readEntry_64 ⟨Nat.zero_le _, Nat.zero_le _⟩ (fun H locs w => ?_)
  obtain ⟨x_6, ex_6, h⟩ := lk_some h
  refine lv_name ex_6 ?_
  refine lv_istore (lv' := [(6, .int x_6), (5, .int x_4), (4, .int x_3), (3, .int x_1), (0, .ref (ad 0)), (1, .ref (ad a1)), (2, .int a2)]) X.1 X.2.1 dX8_readEntry_67 hl (by decide) rfl (fun ls hl => ?_)
  refine lv_iload X.1 X.2.1 dX8_readEntry_69 (lv_at hl 0 rfl) ?_
  refine lv_if_eq (tgt := 81) X.1 X.2.1 dX8_readEntry_71 (by decide) (fun c7 => ?_) (fun c7 => ?_)
  · rw [if_pos c7] at h
    refine lv_aload_n X.1 X.2.1 dX8_readEntry_81 rfl (lv_at hl 5 rfl) ?_
    refine r_get X w (lyWk h1) rfl inT6 3 rfl (by decide) rfl tw_192 dX8_readEntry_82 ?_
    refine lv_if_ne (tgt := 95) X.1 X.2.1 dX8_readEntry_85 (by decide) (fun c8 => ?_) (fun c8 => ?_)
    · rw [if_neg c8] at h
      exact wX8_readEntry_b95 X M h1 w (lv_sub hl [4, 5, 6, 3, 2, 1] rfl) h
    · rw [if_pos c8] at h
      refine lv_aload_n X.1 X.2.1 dX8_readEntry_88 rfl (lv_at hl 4 rfl) ?_
      refine lv_aload_n X.1 X.2.1 dX8_readEntry_89 rfl (lv_at hl 5 rfl) ?_
      refine lv_iload_n X.1 X.2.1 dX8_readEntry_90 rfl (lv_at hl 3 rfl) ?_
      refine lv_iload_n X.1 X.2.1 dX8_readEntry_91 rfl (lv_at hl 6 rfl) ?_
      obtain ⟨m10, r9, hr9, h⟩ := bw_some h
      refine r_cVv (As := [.ref (ad a1), .int x_1, .int a2]) (rest := []) X w lyC_0 rfl (kX8_setMarks (cap := cap) l D ca ad m5 a1 x_1 a2 h1 hr9) (gTV tw_543 tw_545 tw_11 tw_65 tw_546) hdX8_setMarks (by decide) rfl hl.1 rfl (Nat.le_of_ble_eq_true rfl) dX8_readEntry_92 ⟨Nat.zero_le _, Nat.zero_le _⟩ (fun H locs w => ?_)
      exact wX8_readEntry_b95 X M h1 w (lv_sub hl [4, 5, 6, 3, 2, 1] rfl) h
  · rw [if_neg c7] at h
    refine lv_aload_n X.1 X.2.1 dX8_readEntry_74 rfl (lv_at hl 5 rfl) ?_
    refine lv_iload X.1 X.2.1 dX8_readEntry_75 (lv_at hl 0 rfl) ?_
    obtain ⟨m12, r11, hr11, h⟩ := bw_some h
    refine r_cVv (As := [.int x_6]) (rest := []) X w (lyWk h1) rfl (kX6_fail (cap := cap) l D ca ad m5 a1 x_6 h1 hr11) (gTV tw_522 tw_523 tw_524 tw_70 tw_525) hdX6_fail (by decide) rfl hl.1 rfl (Nat.le_of_ble_eq_true rfl) dX8_readEntry_77 ⟨Nat.zero_le _, Nat.zero_le _⟩ (fun H locs w => ?_)
    obtain ⟨rfl, -⟩ := Prod.mk.inj (Option.some.inj h)
    exact r_vret X M w dX8_readEntry_80
/-! WalkHouse.finishWalk(LWalkHouse$Walk;Z)V (W) -/
theorem hdX8_finishWalk : yX8_finishWalk.cls = RX8 ∧ yX8_finishWalk.cls ≠ "java/lang/invoke/MethodHandle" ∧ yX8_finishWalk.cls ≠ "java/lang/invoke/VarHandle" ∧ (parseMethodDescriptor yX8_finishWalk.desc).map (fun d => d.parameters.length) = some 2 := by decide +kernel
def fX8_finishWalk_b2_s  (k2 : Mm → Nat → Int32 → Int32 → Option (Mm × Unit)) (mem : Mm) (x1 : Nat) (x2 : Int32) (x3 : Int32) : Option (Mm × Unit) :=
  if (3 : Int32) ≤ x3 then some (mem, ()) else if (mem x1 0) = (1 : Int32) then bw (fX8_readEntry mem x1 x2) (fun m4 r3 => k2 m4 x1 x2 (x3 + (1 : Int32))) else some (mem, ())
def fX8_finishWalk_b2  : Nat → Mm → Nat → Int32 → Int32 → Option (Mm × Unit)
  | 0 => fun _ _ _ _ => none
  | n + 1 => fX8_finishWalk_b2_s  (fX8_finishWalk_b2  n)
set_option maxRecDepth 100000 in
set_option maxHeartbeats 4000000 in
theorem wX8_finishWalk_b2_s {p : Program} {l : Launch} {e : Env} {s : State} {m : MethodId} {args : Array Value} {below : List Frame} {meth : Method} {c : Code} {D : va_G} {ca : Nat → ClassId} {ad : Nat → Nat} {cap : Nat} {H : Heap} {locs : List Loc} {ls : Array Slot} {mem : Mm} {x1 : Nat} {x2 : Int32} {x3 : Int32}  {k2 : Mm → Nat → Int32 → Int32 → Option (Mm × Unit)} {mem' : Mm} {r : Unit} (X : CallFix p m c cX8_finishWalk 4 s args TT RX8) (M : Mt meth none)  (hk2 : ∀ (mem : Mm) (x1 : Nat) (x2 : Int32) (x3 : Int32) (H : Heap) (locs : List Loc) (ls : Array Slot) (hx1 : isWk x1), Wd D ca ad (layC cap) (AA ad (layC cap).length) s.heap s mem H locs → lv_has ls 4 [(0, .ref (ad 0)), (1, .ref (ad x1)), (2, .int x2), (3, .int x3)] → k2 mem x1 x2 x3 = some (mem', r) → W p l e (rmx 5 115) s m args below meth c H locs 0 0 (EndV D ca ad (layC cap) mem' below args s) (F0 m 2 ls [])) (hx1 : isWk x1) (w : Wd D ca ad (layC cap) (AA ad (layC cap).length) s.heap s mem H locs) (hl : lv_has ls 4 [(0, .ref (ad 0)), (1, .ref (ad x1)), (2, .int x2), (3, .int x3)]) (h : fX8_finishWalk_b2_s  k2 mem x1 x2 x3 = some (mem', r)) : W p l e (rmx 5 115) s m args below meth c H locs 0 0 (EndV D ca ad (layC cap) mem' below args s) (F0 m 2 ls []) := by
  unfold fX8_finishWalk_b2_s at h
  refine lv_iload_n X.1 X.2.1 dX8_finishWalk_2 rfl (lv_at hl 3 rfl) ?_
  refine lv_iconst (v := (3 : Int32)) X.1 X.2.1 dX8_finishWalk_3 (by decide) ?_
  refine lv_icmp_ge (tgt := 27) X.1 X.2.1 dX8_finishWalk_4 (by decide) (fun c1 => ?_) (fun c1 => ?_)
  · rw [if_pos c1] at h
    obtain ⟨rfl, -⟩ := Prod.mk.inj (Option.some.inj h)
    exact r_vret X M w dX8_finishWalk_27
  · rw [if_neg c1] at h
    refine lv_aload_n X.1 X.2.1 dX8_finishWalk_7 rfl (lv_at hl 1 rfl) ?_
    refine r_get X w (lyWk hx1) rfl inT6 0 rfl (by decide) rfl tw_186 dX8_finishWalk_8 ?_
    refine lv_iconst (v := (1 : Int32)) X.1 X.2.1 dX8_finishWalk_11 (by decide) ?_
    refine lv_icmp_ne (tgt := 27) X.1 X.2.1 dX8_finishWalk_12 (by decide) (fun c2 => ?_) (fun c2 => ?_)
    · rw [if_neg c2] at h
      obtain ⟨rfl, -⟩ := Prod.mk.inj (Option.some.inj h)
      exact r_vret X M w dX8_finishWalk_27
    · rw [if_pos c2] at h
      refine lv_aload_n X.1 X.2.1 dX8_finishWalk_15 rfl (lv_at hl 0 rfl) ?_
      refine lv_aload_n X.1 X.2.1 dX8_finishWalk_16 rfl (lv_at hl 1 rfl) ?_
      refine lv_iload_n X.1 X.2.1 dX8_finishWalk_17 rfl (lv_at hl 2 rfl) ?_
      obtain ⟨m4, r3, hr3, h⟩ := bw_some h
      refine r_cVv (As := [.ref (ad x1), .int x2]) (rest := []) X w lyC_0 rfl (kX8_readEntry (cap := cap) l D ca ad mem x1 x2 hx1 hr3) (gTV tw_530 tw_532 tw_10 tw_65 tw_533) hdX8_readEntry (by decide) rfl hl.1 rfl (Nat.le_of_ble_eq_true rfl) dX8_finishWalk_18 ⟨Nat.zero_le _, Nat.zero_le _⟩ (fun H locs w => ?_)
      refine lv_iinc (v := (x3 + (1 : Int32))) (lv' := [(3, .int (x3 + (1 : Int32))), (0, .ref (ad 0)), (1, .ref (ad x1)), (2, .int x2)]) X.1 X.2.1 dX8_finishWalk_21 hl (k := 3) rfl rfl (by decide) rfl (fun ls hl => ?_)
      refine lv_goto (tgt := 2) X.1 X.2.1 dX8_finishWalk_24 (by decide) ?_
      exact hk2 _ _ _ _ H locs ls hx1 w (lv_sub hl [1, 2, 3, 0] rfl) h
set_option maxRecDepth 100000 in
set_option maxHeartbeats 4000000 in
theorem wX8_finishWalk_b2 {p : Program} {l : Launch} {e : Env} {s : State} {m : MethodId} {args : Array Value} {below : List Frame} {meth : Method} {c : Code} {D : va_G} {ca : Nat → ClassId} {ad : Nat → Nat} {cap : Nat}  {mem' : Mm} {r : Unit} (X : CallFix p m c cX8_finishWalk 4 s args TT RX8) (M : Mt meth none)  : ∀ (n : Nat) (mem : Mm) (x1 : Nat) (x2 : Int32) (x3 : Int32) (H : Heap) (locs : List Loc) (ls : Array Slot) (hx1 : isWk x1) (_ : Wd D ca ad (layC cap) (AA ad (layC cap).length) s.heap s mem H locs) (_ : lv_has ls 4 [(0, .ref (ad 0)), (1, .ref (ad x1)), (2, .int x2), (3, .int x3)]) (_ : fX8_finishWalk_b2  n mem x1 x2 x3 = some (mem', r)), W p l e (rmx 5 115) s m args below meth c H locs 0 0 (EndV D ca ad (layC cap) mem' below args s) (F0 m 2 ls []) := by
  intro n
  induction n with
  | zero => intro mem x1 x2 x3 H locs ls hx1 w hl h; exact (nofun : (none : Option (Mm × Unit)) = _ → _) h
  | succ n ih => intro mem x1 x2 x3 H locs ls hx1 w hl h; exact wX8_finishWalk_b2_s X M  ih hx1 w hl h
def fX8_finishWalk (mem : Mm) (a1 : Nat) (a2 : Int32) : Option (Mm × Unit) :=
  fX8_finishWalk_b2 2000 mem a1 a2 (0 : Int32)
set_option maxRecDepth 100000 in
set_option maxHeartbeats 4000000 in
theorem kX8_finishWalk {cap : Nat} (l : Launch) (D : va_G) (ca : Nat → ClassId) (ad : Nat → Nat) (mem : Mm) (a1 : Nat) (a2 : Int32) (h1 : isWk a1) {mem' : Mm} {r : Unit} (h : fX8_finishWalk mem a1 a2 = some (mem', r)) : CtV l yX8_finishWalk cX8_finishWalk 4 none (rmx 5 115) D ca ad (layC cap) mem [.ref (ad 0), .ref (ad a1), .int a2] mem' := by
  refine CtV.of (by decide) (Nat.le_of_ble_eq_true rfl) ?_
  intro p e s m args below meth c H locs ls X M w hl
  replace X : CallFix p m c cX8_finishWalk 4 s args TT RX8 := X
  replace hl : lv_has ls 4 [(0, .ref (ad 0)), (1, .ref (ad a1)), (2, .int a2)] := hl
  unfold fX8_finishWalk at h
  refine lv_iconst (v := (0 : Int32)) X.1 X.2.1 dX8_finishWalk_0 (by decide) ?_
  refine lv_istore_n (lv' := [(3, .int (0 : Int32)), (0, .ref (ad 0)), (1, .ref (ad a1)), (2, .int a2)]) X.1 X.2.1 dX8_finishWalk_1 rfl hl (by decide) rfl (fun ls hl => ?_)
  exact wX8_finishWalk_b2 X M _ _ _ _ _ H locs ls h1 w (lv_sub hl [1, 2, 3, 0] rfl) h
/-! WalkHouse.access(II)I (W) -/
theorem hdX8_access : yX8_access.cls = RX8 ∧ yX8_access.cls ≠ "java/lang/invoke/MethodHandle" ∧ yX8_access.cls ≠ "java/lang/invoke/VarHandle" ∧ (parseMethodDescriptor yX8_access.desc).map (fun d => d.parameters.length) = some 2 := by decide +kernel
def fX8_access (mem : Mm) (a1 : Int32) (a2 : Int32) : Option (Mm × Int32) :=
  bd (fX8_mayAccess mem a1 a2) (fun r1 => if r1 = 0 then some (mem, (-1 : Int32)) else wk mem 0 11 ((mem 0 11) + (1 : Int32)) (fun m3 => bd (fX8_latestFit m3 a1 a2) (fun r4 => oc r4 (bw (fX8_clearFitsUsedLater m3 a1 none) (fun m7 r6 => bw (fX8_startWalk m7 32 a1 a2 (0 : Int32)) (fun m9 r8 => bw (fX8_finishWalk m9 32 (1 : Int32)) (fun m11 r10 => wk m11 0 13 ((m11 0 13) + (m11 32 8)) (fun m12 => if (m12 32 0) = (3 : Int32) then wk m12 0 15 ((m12 0 15) + (1 : Int32)) (fun m15 => bd (fX6_answer m15 32) (fun r16 => some (m15, r16))) else bd (fX6_answer m12 32) (fun r14 => some (m12, r14))))))) (fun b5 => bw (fX8_clearFitsUsedLater m3 a1 (some b5)) (fun m18 r17 => wk m18 0 12 ((m18 0 12) + (1 : Int32)) (fun m19 => bw (fX5_touch m19 7 b5) (fun m21 r20 => bd (fX3_frameAt m21 b5 a1) (fun r22 => some (m21, r22)))))))))
set_option maxRecDepth 100000 in
set_option maxHeartbeats 4000000 in
theorem kX8_access {cap : Nat} (l : Launch) (D : va_G) (ca : Nat → ClassId) (ad : Nat → Nat) (mem : Mm) (a1 : Int32) (a2 : Int32)  {mem' : Mm} {r : Int32} (h : fX8_access mem a1 a2 = some (mem', r)) : CtI l yX8_access cX8_access 4 (some .int) (rmx 6 138) D ca ad (layC cap) mem [.ref (ad 0), .int a1, .int a2] mem' r := by
  refine CtI.of (by decide) (Nat.le_of_ble_eq_true rfl) ?_
  intro p e s m args below meth c H locs ls X M w hl
  replace X : CallFix p m c cX8_access 4 s args TT RX8 := X
  replace hl : lv_has ls 4 [(0, .ref (ad 0)), (1, .int a1), (2, .int a2)] := hl
  unfold fX8_access at h
  refine lv_aload_n X.1 X.2.1 dX8_access_0 rfl (lv_at hl 0 rfl) ?_
  refine lv_iload_n X.1 X.2.1 dX8_access_1 rfl (lv_at hl 1 rfl) ?_
  refine lv_iload_n X.1 X.2.1 dX8_access_2 rfl (lv_at hl 2 rfl) ?_
  obtain ⟨r1, hr1, h⟩ := bd_some h
  refine r_cVi (As := [.int a1, .int a2]) (rest := []) X w lyC_0 rfl (kX8_mayAccess (cap := cap) l D ca ad mem a1 a2  hr1) (gTV tw_442 tw_444 tw_2 tw_65 tw_445) hdX8_mayAccess (by decide) rfl hl.1 rfl (Nat.le_of_ble_eq_true rfl) dX8_access_3 ⟨Nat.zero_le _, Nat.zero_le _⟩ (fun H locs w => ?_)
  refine lv_if_ne (tgt := 11) X.1 X.2.1 dX8_access_6 (by decide) (fun c2 => ?_) (fun c2 => ?_)
  · rw [if_neg c2] at h
    refine lv_aload_n X.1 X.2.1 dX8_access_11 rfl (lv_at hl 0 rfl) ?_
    refine lv_dup X.1 X.2.1 dX8_access_12 rfl ?_
    refine r_get X w lyC_0 rfl inT8 11 rfl (by decide) rfl tw_323 dX8_access_13 ?_
    refine lv_iconst (v := (1 : Int32)) X.1 X.2.1 dX8_access_16 (by decide) ?_
    refine lv_iadd X.1 X.2.1 dX8_access_17 ?_
    refine r_put X w lyC_0 rfl inT8 tyX8 tyX8_ok nmX8 11 rfl (by decide) rfl rfl tw_323 rfl rfl dX8_access_18 (fun H locs w => ?_)
    obtain ⟨m3, em3, h⟩ := wk_some h
    rw [em3] at w
    refine lv_aload_n X.1 X.2.1 dX8_access_21 rfl (lv_at hl 0 rfl) ?_
    refine lv_iload_n X.1 X.2.1 dX8_access_22 rfl (lv_at hl 1 rfl) ?_
    refine lv_iload_n X.1 X.2.1 dX8_access_23 rfl (lv_at hl 2 rfl) ?_
    obtain ⟨r4, hr4, h⟩ := bd_some h
    refine r_cVq (As := [.int a1, .int a2]) (rest := []) X w lyC_0 rfl (kX8_latestFit (cap := cap) l D ca ad m3 a1 a2  hr4) (gTV tw_449 tw_451 tw_3 tw_65 tw_452) hdX8_latestFit (by decide) rfl hl.1 rfl (Nat.le_of_ble_eq_true rfl) dX8_access_24 ⟨Nat.zero_le _, Nat.zero_le _⟩ (fun H locs w => ?_)
    rcases r4 with _ | b5
    · have h := oc_n h
      refine lv_astore_nN (lv' := [(3, .null), (0, .ref (ad 0)), (1, .int a1), (2, .int a2)]) X.1 X.2.1 dX8_access_27 rfl hl (by decide) rfl (fun ls hl => ?_)
      refine lv_aload_n X.1 X.2.1 dX8_access_28 rfl (lv_at hl 1 rfl) ?_
      refine lv_iload_n X.1 X.2.1 dX8_access_29 rfl (lv_at hl 2 rfl) ?_
      refine lv_aload_nN X.1 X.2.1 dX8_access_30 rfl (lv_at hl 0 rfl) ?_
      obtain ⟨m7, r6, hr6, h⟩ := bw_some h
      refine r_cVv (As := [.int a1, .null]) (rest := []) X w lyC_0 rfl (kX8_clearFitsUsedLater (cap := cap) l D ca ad m3 a1 none  hr6) (gTV tw_479 tw_481 tw_5 tw_65 tw_482) hdX8_clearFitsUsedLater (by decide) rfl hl.1 rfl (Nat.le_of_ble_eq_true rfl) dX8_access_31 ⟨Nat.zero_le _, Nat.zero_le _⟩ (fun H locs w => ?_)
      refine lv_aload_nN X.1 X.2.1 dX8_access_34 rfl (lv_at hl 0 rfl) ?_
      refine lv_ifnullN (tgt := 62) X.1 X.2.1 dX8_access_35 (by decide) ?_
      refine lv_aload_n X.1 X.2.1 dX8_access_62 rfl (lv_at hl 1 rfl) ?_
      refine lv_aload_n X.1 X.2.1 dX8_access_63 rfl (lv_at hl 1 rfl) ?_
      refine r_getr (b2 := 32) X w lyC_0 rfl inT8 6 rfl rfl (by decide) rfl tw_318 dX8_access_64 ?_
      refine lv_iload_n X.1 X.2.1 dX8_access_67 rfl (lv_at hl 2 rfl) ?_
      refine lv_iload_n X.1 X.2.1 dX8_access_68 rfl (lv_at hl 3 rfl) ?_
      refine lv_iconst (v := (0 : Int32)) X.1 X.2.1 dX8_access_69 (by decide) ?_
      obtain ⟨m9, r8, hr8, h⟩ := bw_some h
      refine r_cVv (As := [.ref (ad 32), .int a1, .int a2, .int (0 : Int32)]) (rest := []) X w lyC_0 rfl (kX8_startWalk (cap := cap) l D ca ad m7 32 a1 a2 (0 : Int32) isWk32 hr8) (gTV tw_492 tw_494 tw_6 tw_65 tw_495) hdX8_startWalk (by decide) rfl hl.1 rfl (Nat.le_of_ble_eq_true rfl) dX8_access_70 ⟨Nat.zero_le _, Nat.zero_le _⟩ (fun H locs w => ?_)
      refine lv_aload_n X.1 X.2.1 dX8_access_73 rfl (lv_at hl 1 rfl) ?_
      refine lv_aload_n X.1 X.2.1 dX8_access_74 rfl (lv_at hl 1 rfl) ?_
      refine r_getr (b2 := 32) X w lyC_0 rfl inT8 6 rfl rfl (by decide) rfl tw_318 dX8_access_75 ?_
      refine lv_iconst (v := (1 : Int32)) X.1 X.2.1 dX8_access_78 (by decide) ?_
      obtain ⟨m11, r10, hr10, h⟩ := bw_some h
      refine r_cVv (As := [.ref (ad 32), .int (1 : Int32)]) (rest := []) X w lyC_0 rfl (kX8_finishWalk (cap := cap) l D ca ad m9 32 (1 : Int32) isWk32 hr10) (gTV tw_526 tw_528 tw_9 tw_65 tw_529) hdX8_finishWalk (by decide) rfl hl.1 rfl (Nat.le_of_ble_eq_true rfl) dX8_access_79 ⟨Nat.zero_le _, Nat.zero_le _⟩ (fun H locs w => ?_)
      refine lv_aload_n X.1 X.2.1 dX8_access_82 rfl (lv_at hl 1 rfl) ?_
      refine lv_dup X.1 X.2.1 dX8_access_83 rfl ?_
      refine r_get X w lyC_0 rfl inT8 13 rfl (by decide) rfl tw_325 dX8_access_84 ?_
      refine lv_aload_n X.1 X.2.1 dX8_access_87 rfl (lv_at hl 1 rfl) ?_
      refine r_getr (b2 := 32) X w lyC_0 rfl inT8 6 rfl rfl (by decide) rfl tw_318 dX8_access_88 ?_
      refine r_get X w lyC_32 rfl inT6 8 rfl (by decide) rfl tw_202 dX8_access_91 ?_
      refine lv_iadd X.1 X.2.1 dX8_access_94 ?_
      refine r_put X w lyC_0 rfl inT8 tyX8 tyX8_ok nmX8 13 rfl (by decide) rfl rfl tw_325 rfl rfl dX8_access_95 (fun H locs w => ?_)
      obtain ⟨m12, em12, h⟩ := wk_some h
      rw [em12] at w
      refine lv_aload_n X.1 X.2.1 dX8_access_98 rfl (lv_at hl 1 rfl) ?_
      refine r_getr (b2 := 32) X w lyC_0 rfl inT8 6 rfl rfl (by decide) rfl tw_318 dX8_access_99 ?_
      refine r_get X w lyC_32 rfl inT6 0 rfl (by decide) rfl tw_186 dX8_access_102 ?_
      refine lv_iconst (v := (3 : Int32)) X.1 X.2.1 dX8_access_105 (by decide) ?_
      refine lv_icmp_ne (tgt := 119) X.1 X.2.1 dX8_access_106 (by decide) (fun c13 => ?_) (fun c13 => ?_)
      · rw [if_neg c13] at h
        refine lv_aload_n X.1 X.2.1 dX8_access_119 rfl (lv_at hl 1 rfl) ?_
        refine r_getr (b2 := 32) X w lyC_0 rfl inT8 6 rfl rfl (by decide) rfl tw_318 dX8_access_120 ?_
        obtain ⟨r14, hr14, h⟩ := bd_some h
        refine r_cVi (As := []) (rest := []) X w lyC_32 rfl (kX6_answer (cap := cap) l D ca ad m12 32 isWk32 hr14) (gTV tw_572 tw_573 tw_574 tw_70 tw_575) hdX6_answer (by decide) rfl hl.1 rfl (Nat.le_of_ble_eq_true rfl) dX8_access_123 ⟨Nat.zero_le _, Nat.zero_le _⟩ (fun H locs w => ?_)
        obtain ⟨rfl, rfl⟩ := Prod.mk.inj (Option.some.inj h)
        exact r_iret X M w dX8_access_126
      · rw [if_pos c13] at h
        refine lv_aload_n X.1 X.2.1 dX8_access_109 rfl (lv_at hl 1 rfl) ?_
        refine lv_dup X.1 X.2.1 dX8_access_110 rfl ?_
        refine r_get X w lyC_0 rfl inT8 15 rfl (by decide) rfl tw_327 dX8_access_111 ?_
        refine lv_iconst (v := (1 : Int32)) X.1 X.2.1 dX8_access_114 (by decide) ?_
        refine lv_iadd X.1 X.2.1 dX8_access_115 ?_
        refine r_put X w lyC_0 rfl inT8 tyX8 tyX8_ok nmX8 15 rfl (by decide) rfl rfl tw_327 rfl rfl dX8_access_116 (fun H locs w => ?_)
        obtain ⟨m15, em15, h⟩ := wk_some h
        rw [em15] at w
        refine lv_aload_n X.1 X.2.1 dX8_access_119 rfl (lv_at hl 1 rfl) ?_
        refine r_getr (b2 := 32) X w lyC_0 rfl inT8 6 rfl rfl (by decide) rfl tw_318 dX8_access_120 ?_
        obtain ⟨r16, hr16, h⟩ := bd_some h
        refine r_cVi (As := []) (rest := []) X w lyC_32 rfl (kX6_answer (cap := cap) l D ca ad m15 32 isWk32 hr16) (gTV tw_572 tw_573 tw_574 tw_70 tw_575) hdX6_answer (by decide) rfl hl.1 rfl (Nat.le_of_ble_eq_true rfl) dX8_access_123 ⟨Nat.zero_le _, Nat.zero_le _⟩ (fun H locs w => ?_)
        obtain ⟨rfl, rfl⟩ := Prod.mk.inj (Option.some.inj h)
        exact r_iret X M w dX8_access_126
    · obtain ⟨hb5, h⟩ := oc_s h
      refine lv_astore_n (lv' := [(3, .ref (ad b5)), (0, .ref (ad 0)), (1, .int a1), (2, .int a2)]) X.1 X.2.1 dX8_access_27 rfl hl (by decide) rfl (fun ls hl => ?_)
      refine lv_aload_n X.1 X.2.1 dX8_access_28 rfl (lv_at hl 1 rfl) ?_
      refine lv_iload_n X.1 X.2.1 dX8_access_29 rfl (lv_at hl 2 rfl) ?_
      refine lv_aload_n X.1 X.2.1 dX8_access_30 rfl (lv_at hl 0 rfl) ?_
      obtain ⟨m18, r17, hr17, h⟩ := bw_some h
      refine r_cVv (As := [.int a1, .ref (ad b5)]) (rest := []) X w lyC_0 rfl (kX8_clearFitsUsedLater (cap := cap) l D ca ad m3 a1 (some b5)  hr17) (gTV tw_479 tw_481 tw_5 tw_65 tw_482) hdX8_clearFitsUsedLater (by decide) rfl hl.1 rfl (Nat.le_of_ble_eq_true rfl) dX8_access_31 ⟨Nat.zero_le _, Nat.zero_le _⟩ (fun H locs w => ?_)
      refine lv_aload_n X.1 X.2.1 dX8_access_34 rfl (lv_at hl 0 rfl) ?_
      refine lv_ifnull X.1 X.2.1 dX8_access_35 ?_
      refine lv_aload_n X.1 X.2.1 dX8_access_38 rfl (lv_at hl 1 rfl) ?_
      refine lv_dup X.1 X.2.1 dX8_access_39 rfl ?_
      refine r_get X w lyC_0 rfl inT8 12 rfl (by decide) rfl tw_324 dX8_access_40 ?_
      refine lv_iconst (v := (1 : Int32)) X.1 X.2.1 dX8_access_43 (by decide) ?_
      refine lv_iadd X.1 X.2.1 dX8_access_44 ?_
      refine r_put X w lyC_0 rfl inT8 tyX8 tyX8_ok nmX8 12 rfl (by decide) rfl rfl tw_324 rfl rfl dX8_access_45 (fun H locs w => ?_)
      obtain ⟨m19, em19, h⟩ := wk_some h
      rw [em19] at w
      refine lv_aload_n X.1 X.2.1 dX8_access_48 rfl (lv_at hl 1 rfl) ?_
      refine r_getr (b2 := 7) X w lyC_0 rfl inT8 3 rfl rfl (by decide) rfl tw_315 dX8_access_49 ?_
      refine lv_aload_n X.1 X.2.1 dX8_access_52 rfl (lv_at hl 0 rfl) ?_
      obtain ⟨m21, r20, hr20, h⟩ := bw_some h
      refine r_cVv (As := [.ref (ad b5)]) (rest := []) X w lyC_7 rfl (kX5_touch (cap := cap) l D ca ad m19 7 b5 isSt7 hb5 hr20) (gTV tw_483 tw_484 tw_485 tw_68 tw_486) hdX5_touch (by decide) rfl hl.1 rfl (Nat.le_of_ble_eq_true rfl) dX8_access_53 ⟨Nat.zero_le _, Nat.zero_le _⟩ (fun H locs w => ?_)
      refine lv_aload_n X.1 X.2.1 dX8_access_56 rfl (lv_at hl 0 rfl) ?_
      refine lv_iload_n X.1 X.2.1 dX8_access_57 rfl (lv_at hl 2 rfl) ?_
      obtain ⟨r22, hr22, h⟩ := bd_some h
      refine r_cVi (As := [.int a1]) (rest := []) X w (lyPl hb5) rfl (kX3_frameAt (cap := cap) l D ca ad m21 b5 a1 hb5 hr22) (gTV tw_487 tw_488 tw_489 tw_69 tw_490) hdX3_frameAt (by decide) rfl hl.1 rfl (Nat.le_of_ble_eq_true rfl) dX8_access_58 ⟨Nat.zero_le _, Nat.zero_le _⟩ (fun H locs w => ?_)
      obtain ⟨rfl, rfl⟩ := Prod.mk.inj (Option.some.inj h)
      exact r_iret X M w dX8_access_61
  · rw [if_pos c2] at h
    refine lv_iconst (v := (-1 : Int32)) X.1 X.2.1 dX8_access_9 (by decide) ?_
    obtain ⟨rfl, rfl⟩ := Prod.mk.inj (Option.some.inj h)
    exact r_iret X M w dX8_access_10
/-! WalkHouse.rehearseWalk(II)V (W) -/
theorem hdX8_rehearseWalk : yX8_rehearseWalk.cls = RX8 ∧ yX8_rehearseWalk.cls ≠ "java/lang/invoke/MethodHandle" ∧ yX8_rehearseWalk.cls ≠ "java/lang/invoke/VarHandle" ∧ (parseMethodDescriptor yX8_rehearseWalk.desc).map (fun d => d.parameters.length) = some 2 := by decide +kernel
def fX8_rehearseWalk (mem : Mm) (a1 : Int32) (a2 : Int32) : Option (Mm × Unit) :=
  bw (fX8_placeWalk mem 32 a1 a2 (0 : Int32)) (fun m2 r1 => bw (fX8_finishWalk m2 32 (0 : Int32)) (fun m4 r3 => some (m4, ())))
set_option maxRecDepth 100000 in
set_option maxHeartbeats 4000000 in
theorem kX8_rehearseWalk {cap : Nat} (l : Launch) (D : va_G) (ca : Nat → ClassId) (ad : Nat → Nat) (mem : Mm) (a1 : Int32) (a2 : Int32)  {mem' : Mm} {r : Unit} (h : fX8_rehearseWalk mem a1 a2 = some (mem', r)) : CtV l yX8_rehearseWalk cX8_rehearseWalk 3 none (rmx 6 138) D ca ad (layC cap) mem [.ref (ad 0), .int a1, .int a2] mem' := by
  refine CtV.of (by decide) (Nat.le_of_ble_eq_true rfl) ?_
  intro p e s m args below meth c H locs ls X M w hl
  replace X : CallFix p m c cX8_rehearseWalk 3 s args TT RX8 := X
  replace hl : lv_has ls 3 [(0, .ref (ad 0)), (1, .int a1), (2, .int a2)] := hl
  unfold fX8_rehearseWalk at h
  refine lv_aload_n X.1 X.2.1 dX8_rehearseWalk_0 rfl (lv_at hl 0 rfl) ?_
  refine lv_aload_n X.1 X.2.1 dX8_rehearseWalk_1 rfl (lv_at hl 0 rfl) ?_
  refine r_getr (b2 := 32) X w lyC_0 rfl inT8 6 rfl rfl (by decide) rfl tw_318 dX8_rehearseWalk_2 ?_
  refine lv_iload_n X.1 X.2.1 dX8_rehearseWalk_5 rfl (lv_at hl 1 rfl) ?_
  refine lv_iload_n X.1 X.2.1 dX8_rehearseWalk_6 rfl (lv_at hl 2 rfl) ?_
  refine lv_iconst (v := (0 : Int32)) X.1 X.2.1 dX8_rehearseWalk_7 (by decide) ?_
  obtain ⟨m2, r1, hr1, h⟩ := bw_some h
  refine r_cVq (As := [.ref (ad 32), .int a1, .int a2, .int (0 : Int32)]) (rest := []) X w lyC_0 rfl (kX8_placeWalk (cap := cap) l D ca ad mem 32 a1 a2 (0 : Int32) isWk32 hr1) (gTV tw_496 tw_498 tw_7 tw_65 tw_499) hdX8_placeWalk (by decide) rfl hl.1 rfl (Nat.le_of_ble_eq_true rfl) dX8_rehearseWalk_8 ⟨Nat.zero_le _, Nat.zero_le _⟩ (fun H locs w => ?_)
  refine lv_pop X.1 X.2.1 dX8_rehearseWalk_11 (va_rf_cat _) ?_
  refine lv_aload_n X.1 X.2.1 dX8_rehearseWalk_12 rfl (lv_at hl 0 rfl) ?_
  refine lv_aload_n X.1 X.2.1 dX8_rehearseWalk_13 rfl (lv_at hl 0 rfl) ?_
  refine r_getr (b2 := 32) X w lyC_0 rfl inT8 6 rfl rfl (by decide) rfl tw_318 dX8_rehearseWalk_14 ?_
  refine lv_iconst (v := (0 : Int32)) X.1 X.2.1 dX8_rehearseWalk_17 (by decide) ?_
  obtain ⟨m4, r3, hr3, h⟩ := bw_some h
  refine r_cVv (As := [.ref (ad 32), .int (0 : Int32)]) (rest := []) X w lyC_0 rfl (kX8_finishWalk (cap := cap) l D ca ad m2 32 (0 : Int32) isWk32 hr3) (gTV tw_526 tw_528 tw_9 tw_65 tw_529) hdX8_finishWalk (by decide) rfl hl.1 rfl (Nat.le_of_ble_eq_true rfl) dX8_rehearseWalk_18 ⟨Nat.zero_le _, Nat.zero_le _⟩ (fun H locs w => ?_)
  obtain ⟨rfl, -⟩ := Prod.mk.inj (Option.some.inj h)
  exact r_vret X M w dX8_rehearseWalk_21
/-! WalkHouse.would(II)I (W) -/
theorem hdX8_would : yX8_would.cls = RX8 ∧ yX8_would.cls ≠ "java/lang/invoke/MethodHandle" ∧ yX8_would.cls ≠ "java/lang/invoke/VarHandle" ∧ (parseMethodDescriptor yX8_would.desc).map (fun d => d.parameters.length) = some 2 := by decide +kernel
def fX8_would (mem : Mm) (a1 : Int32) (a2 : Int32) : Option (Mm × Int32) :=
  bd (fX8_mayAccess mem a1 a2) (fun r1 => if r1 = 0 then some (mem, (-1 : Int32)) else bd (fX8_latestFit mem a1 a2) (fun r3 => oc r3 (bw (fX8_rehearseWalk mem a1 a2) (fun m6 r5 => bd (fX6_answer m6 32) (fun r7 => some (m6, r7)))) (fun b4 => bd (fX3_frameAt mem b4 a1) (fun r8 => some (mem, r8)))))
set_option maxRecDepth 100000 in
set_option maxHeartbeats 4000000 in
theorem kX8_would {cap : Nat} (l : Launch) (D : va_G) (ca : Nat → ClassId) (ad : Nat → Nat) (mem : Mm) (a1 : Int32) (a2 : Int32)  {mem' : Mm} {r : Int32} (h : fX8_would mem a1 a2 = some (mem', r)) : CtI l yX8_would cX8_would 4 (some .int) (rmx 7 160) D ca ad (layC cap) mem [.ref (ad 0), .int a1, .int a2] mem' r := by
  refine CtI.of (by decide) (Nat.le_of_ble_eq_true rfl) ?_
  intro p e s m args below meth c H locs ls X M w hl
  replace X : CallFix p m c cX8_would 4 s args TT RX8 := X
  replace hl : lv_has ls 4 [(0, .ref (ad 0)), (1, .int a1), (2, .int a2)] := hl
  unfold fX8_would at h
  refine lv_aload_n X.1 X.2.1 dX8_would_0 rfl (lv_at hl 0 rfl) ?_
  refine lv_iload_n X.1 X.2.1 dX8_would_1 rfl (lv_at hl 1 rfl) ?_
  refine lv_iload_n X.1 X.2.1 dX8_would_2 rfl (lv_at hl 2 rfl) ?_
  obtain ⟨r1, hr1, h⟩ := bd_some h
  refine r_cVi (As := [.int a1, .int a2]) (rest := []) X w lyC_0 rfl (kX8_mayAccess (cap := cap) l D ca ad mem a1 a2  hr1) (gTV tw_442 tw_444 tw_2 tw_65 tw_445) hdX8_mayAccess (by decide) rfl hl.1 rfl (Nat.le_of_ble_eq_true rfl) dX8_would_3 ⟨Nat.zero_le _, Nat.zero_le _⟩ (fun H locs w => ?_)
  refine lv_if_ne (tgt := 11) X.1 X.2.1 dX8_would_6 (by decide) (fun c2 => ?_) (fun c2 => ?_)
  · rw [if_neg c2] at h
    refine lv_aload_n X.1 X.2.1 dX8_would_11 rfl (lv_at hl 0 rfl) ?_
    refine lv_iload_n X.1 X.2.1 dX8_would_12 rfl (lv_at hl 1 rfl) ?_
    refine lv_iload_n X.1 X.2.1 dX8_would_13 rfl (lv_at hl 2 rfl) ?_
    obtain ⟨r3, hr3, h⟩ := bd_some h
    refine r_cVq (As := [.int a1, .int a2]) (rest := []) X w lyC_0 rfl (kX8_latestFit (cap := cap) l D ca ad mem a1 a2  hr3) (gTV tw_449 tw_451 tw_3 tw_65 tw_452) hdX8_latestFit (by decide) rfl hl.1 rfl (Nat.le_of_ble_eq_true rfl) dX8_would_14 ⟨Nat.zero_le _, Nat.zero_le _⟩ (fun H locs w => ?_)
    rcases r3 with _ | b4
    · have h := oc_n h
      refine lv_astore_nN (lv' := [(3, .null), (0, .ref (ad 0)), (1, .int a1), (2, .int a2)]) X.1 X.2.1 dX8_would_17 rfl hl (by decide) rfl (fun ls hl => ?_)
      refine lv_aload_nN X.1 X.2.1 dX8_would_18 rfl (lv_at hl 0 rfl) ?_
      refine lv_ifnullN (tgt := 28) X.1 X.2.1 dX8_would_19 (by decide) ?_
      refine lv_aload_n X.1 X.2.1 dX8_would_28 rfl (lv_at hl 1 rfl) ?_
      refine lv_iload_n X.1 X.2.1 dX8_would_29 rfl (lv_at hl 2 rfl) ?_
      refine lv_iload_n X.1 X.2.1 dX8_would_30 rfl (lv_at hl 3 rfl) ?_
      obtain ⟨m6, r5, hr5, h⟩ := bw_some h
      refine r_cVv (As := [.int a1, .int a2]) (rest := []) X w lyC_0 rfl (kX8_rehearseWalk (cap := cap) l D ca ad mem a1 a2  hr5) (gTV tw_580 tw_582 tw_13 tw_65 tw_583) hdX8_rehearseWalk (by decide) rfl hl.1 rfl (Nat.le_of_ble_eq_true rfl) dX8_would_31 ⟨Nat.zero_le _, Nat.zero_le _⟩ (fun H locs w => ?_)
      refine lv_aload_n X.1 X.2.1 dX8_would_34 rfl (lv_at hl 1 rfl) ?_
      refine r_getr (b2 := 32) X w lyC_0 rfl inT8 6 rfl rfl (by decide) rfl tw_318 dX8_would_35 ?_
      obtain ⟨r7, hr7, h⟩ := bd_some h
      refine r_cVi (As := []) (rest := []) X w lyC_32 rfl (kX6_answer (cap := cap) l D ca ad m6 32 isWk32 hr7) (gTV tw_572 tw_573 tw_574 tw_70 tw_575) hdX6_answer (by decide) rfl hl.1 rfl (Nat.le_of_ble_eq_true rfl) dX8_would_38 ⟨Nat.zero_le _, Nat.zero_le _⟩ (fun H locs w => ?_)
      obtain ⟨rfl, rfl⟩ := Prod.mk.inj (Option.some.inj h)
      exact r_iret X M w dX8_would_41
    · obtain ⟨hb4, h⟩ := oc_s h
      refine lv_astore_n (lv' := [(3, .ref (ad b4)), (0, .ref (ad 0)), (1, .int a1), (2, .int a2)]) X.1 X.2.1 dX8_would_17 rfl hl (by decide) rfl (fun ls hl => ?_)
      refine lv_aload_n X.1 X.2.1 dX8_would_18 rfl (lv_at hl 0 rfl) ?_
      refine lv_ifnull X.1 X.2.1 dX8_would_19 ?_
      refine lv_aload_n X.1 X.2.1 dX8_would_22 rfl (lv_at hl 0 rfl) ?_
      refine lv_iload_n X.1 X.2.1 dX8_would_23 rfl (lv_at hl 2 rfl) ?_
      obtain ⟨r8, hr8, h⟩ := bd_some h
      refine r_cVi (As := [.int a1]) (rest := []) X w (lyPl hb4) rfl (kX3_frameAt (cap := cap) l D ca ad mem b4 a1 hb4 hr8) (gTV tw_487 tw_488 tw_489 tw_69 tw_490) hdX3_frameAt (by decide) rfl hl.1 rfl (Nat.le_of_ble_eq_true rfl) dX8_would_24 ⟨Nat.zero_le _, Nat.zero_le _⟩ (fun H locs w => ?_)
      obtain ⟨rfl, rfl⟩ := Prod.mk.inj (Option.some.inj h)
      exact r_iret X M w dX8_would_27
  · rw [if_pos c2] at h
    refine lv_iconst (v := (-1 : Int32)) X.1 X.2.1 dX8_would_9 (by decide) ?_
    obtain ⟨rfl, rfl⟩ := Prod.mk.inj (Option.some.inj h)
    exact r_iret X M w dX8_would_10
/-! WalkHouse.steps(II)I (W) -/
theorem hdX8_steps : yX8_steps.cls = RX8 ∧ yX8_steps.cls ≠ "java/lang/invoke/MethodHandle" ∧ yX8_steps.cls ≠ "java/lang/invoke/VarHandle" ∧ (parseMethodDescriptor yX8_steps.desc).map (fun d => d.parameters.length) = some 2 := by decide +kernel
def fX8_steps (mem : Mm) (a1 : Int32) (a2 : Int32) : Option (Mm × Int32) :=
  bd (fX8_mayAccess mem a1 a2) (fun r1 => if r1 = 0 then some (mem, (-1 : Int32)) else bd (fX8_latestFit mem a1 a2) (fun r3 => oc r3 (bw (fX8_rehearseWalk mem a1 a2) (fun m6 r5 => some (m6, (m6 32 8)))) (fun b4 => some (mem, (0 : Int32)))))
set_option maxRecDepth 100000 in
set_option maxHeartbeats 4000000 in
theorem kX8_steps {cap : Nat} (l : Launch) (D : va_G) (ca : Nat → ClassId) (ad : Nat → Nat) (mem : Mm) (a1 : Int32) (a2 : Int32)  {mem' : Mm} {r : Int32} (h : fX8_steps mem a1 a2 = some (mem', r)) : CtI l yX8_steps cX8_steps 3 (some .int) (rmx 7 160) D ca ad (layC cap) mem [.ref (ad 0), .int a1, .int a2] mem' r := by
  refine CtI.of (by decide) (Nat.le_of_ble_eq_true rfl) ?_
  intro p e s m args below meth c H locs ls X M w hl
  replace X : CallFix p m c cX8_steps 3 s args TT RX8 := X
  replace hl : lv_has ls 3 [(0, .ref (ad 0)), (1, .int a1), (2, .int a2)] := hl
  unfold fX8_steps at h
  refine lv_aload_n X.1 X.2.1 dX8_steps_0 rfl (lv_at hl 0 rfl) ?_
  refine lv_iload_n X.1 X.2.1 dX8_steps_1 rfl (lv_at hl 1 rfl) ?_
  refine lv_iload_n X.1 X.2.1 dX8_steps_2 rfl (lv_at hl 2 rfl) ?_
  obtain ⟨r1, hr1, h⟩ := bd_some h
  refine r_cVi (As := [.int a1, .int a2]) (rest := []) X w lyC_0 rfl (kX8_mayAccess (cap := cap) l D ca ad mem a1 a2  hr1) (gTV tw_442 tw_444 tw_2 tw_65 tw_445) hdX8_mayAccess (by decide) rfl hl.1 rfl (Nat.le_of_ble_eq_true rfl) dX8_steps_3 ⟨Nat.zero_le _, Nat.zero_le _⟩ (fun H locs w => ?_)
  refine lv_if_ne (tgt := 11) X.1 X.2.1 dX8_steps_6 (by decide) (fun c2 => ?_) (fun c2 => ?_)
  · rw [if_neg c2] at h
    refine lv_aload_n X.1 X.2.1 dX8_steps_11 rfl (lv_at hl 0 rfl) ?_
    refine lv_iload_n X.1 X.2.1 dX8_steps_12 rfl (lv_at hl 1 rfl) ?_
    refine lv_iload_n X.1 X.2.1 dX8_steps_13 rfl (lv_at hl 2 rfl) ?_
    obtain ⟨r3, hr3, h⟩ := bd_some h
    refine r_cVq (As := [.int a1, .int a2]) (rest := []) X w lyC_0 rfl (kX8_latestFit (cap := cap) l D ca ad mem a1 a2  hr3) (gTV tw_449 tw_451 tw_3 tw_65 tw_452) hdX8_latestFit (by decide) rfl hl.1 rfl (Nat.le_of_ble_eq_true rfl) dX8_steps_14 ⟨Nat.zero_le _, Nat.zero_le _⟩ (fun H locs w => ?_)
    rcases r3 with _ | b4
    · have h := oc_n h
      refine lv_ifnullN (tgt := 22) X.1 X.2.1 dX8_steps_17 (by decide) ?_
      refine lv_aload_n X.1 X.2.1 dX8_steps_22 rfl (lv_at hl 0 rfl) ?_
      refine lv_iload_n X.1 X.2.1 dX8_steps_23 rfl (lv_at hl 1 rfl) ?_
      refine lv_iload_n X.1 X.2.1 dX8_steps_24 rfl (lv_at hl 2 rfl) ?_
      obtain ⟨m6, r5, hr5, h⟩ := bw_some h
      refine r_cVv (As := [.int a1, .int a2]) (rest := []) X w lyC_0 rfl (kX8_rehearseWalk (cap := cap) l D ca ad mem a1 a2  hr5) (gTV tw_580 tw_582 tw_13 tw_65 tw_583) hdX8_rehearseWalk (by decide) rfl hl.1 rfl (Nat.le_of_ble_eq_true rfl) dX8_steps_25 ⟨Nat.zero_le _, Nat.zero_le _⟩ (fun H locs w => ?_)
      refine lv_aload_n X.1 X.2.1 dX8_steps_28 rfl (lv_at hl 0 rfl) ?_
      refine r_getr (b2 := 32) X w lyC_0 rfl inT8 6 rfl rfl (by decide) rfl tw_318 dX8_steps_29 ?_
      refine r_get X w lyC_32 rfl inT6 8 rfl (by decide) rfl tw_202 dX8_steps_32 ?_
      obtain ⟨rfl, rfl⟩ := Prod.mk.inj (Option.some.inj h)
      exact r_iret X M w dX8_steps_35
    · obtain ⟨hb4, h⟩ := oc_s h
      refine lv_ifnull X.1 X.2.1 dX8_steps_17 ?_
      refine lv_iconst (v := (0 : Int32)) X.1 X.2.1 dX8_steps_20 (by decide) ?_
      obtain ⟨rfl, rfl⟩ := Prod.mk.inj (Option.some.inj h)
      exact r_iret X M w dX8_steps_21
  · rw [if_pos c2] at h
    refine lv_iconst (v := (-1 : Int32)) X.1 X.2.1 dX8_steps_9 (by decide) ?_
    obtain ⟨rfl, rfl⟩ := Prod.mk.inj (Option.some.inj h)
    exact r_iret X M w dX8_steps_10
/-! WalkHouse.isWalker(I)Z (T) -/
theorem hdX8_isWalker : yX8_isWalker.cls ≠ "java/lang/invoke/MethodHandle" ∧ yX8_isWalker.cls ≠ "java/lang/invoke/VarHandle" ∧ (parseMethodDescriptor yX8_isWalker.desc).map (fun d => d.parameters.length) = some 1 := by decide +kernel
def fX8_isWalker (a0 : Int32) : Int32 :=
  if a0 < 0 then (0 : Int32) else if (4 : Int32) ≤ a0 then (0 : Int32) else (1 : Int32)
set_option maxRecDepth 100000 in
set_option maxHeartbeats 4000000 in
theorem kX8_isWalker {cap : Nat} (l : Launch) (D : va_G) (ca : Nat → ClassId) (ad : Nat → Nat) (mem : Mm) (a0 : Int32)  {r : Int32} (h : fX8_isWalker a0 = r) : CtI l yX8_isWalker cX8_isWalker 1 (some .boolean) (rmx 0 0) D ca ad (layC cap) mem [.int a0] mem r := by
  refine CtI.of (by decide) (Nat.le_of_ble_eq_true rfl) ?_
  intro p e s m args below meth c H locs ls X M w hl
  replace X : CallFix p m c cX8_isWalker 1 s args TT RX8 := X
  replace hl : lv_has ls 1 [(0, .int a0)] := hl
  unfold fX8_isWalker at h
  refine lv_iload_n X.1 X.2.1 dX8_isWalker_0 rfl (lv_at hl 0 rfl) ?_
  refine lv_if_lt (tgt := 13) X.1 X.2.1 dX8_isWalker_1 (by decide) (fun c1 => ?_) (fun c1 => ?_)
  · rw [if_pos c1] at h
    refine lv_iconst (v := (0 : Int32)) X.1 X.2.1 dX8_isWalker_13 (by decide) ?_
    subst h
    exact r_zret X M w (by decide) dX8_isWalker_14
  · rw [if_neg c1] at h
    refine lv_iload_n X.1 X.2.1 dX8_isWalker_4 rfl (lv_at hl 0 rfl) ?_
    refine lv_iconst (v := (4 : Int32)) X.1 X.2.1 dX8_isWalker_5 (by decide) ?_
    refine lv_icmp_ge (tgt := 13) X.1 X.2.1 dX8_isWalker_6 (by decide) (fun c2 => ?_) (fun c2 => ?_)
    · rw [if_pos c2] at h
      refine lv_iconst (v := (0 : Int32)) X.1 X.2.1 dX8_isWalker_13 (by decide) ?_
      subst h
      exact r_zret X M w (by decide) dX8_isWalker_14
    · rw [if_neg c2] at h
      refine lv_iconst (v := (1 : Int32)) X.1 X.2.1 dX8_isWalker_9 (by decide) ?_
      refine lv_goto (tgt := 14) X.1 X.2.1 dX8_isWalker_10 (by decide) ?_
      subst h
      exact r_zret X M w (by decide) dX8_isWalker_14
theorem zX8_isWalker (a0 : Int32) : fX8_isWalker a0 &&& 1 = fX8_isWalker a0 := by
  unfold fX8_isWalker; (repeat' split) <;> (repeat' split) <;> first | decide
/-! WalkHouse.begin(IIIZ)I (W) -/
theorem hdX8_begin : yX8_begin.cls = RX8 ∧ yX8_begin.cls ≠ "java/lang/invoke/MethodHandle" ∧ yX8_begin.cls ≠ "java/lang/invoke/VarHandle" ∧ (parseMethodDescriptor yX8_begin.desc).map (fun d => d.parameters.length) = some 4 := by decide +kernel
def fX8_begin (mem : Mm) (a1 : Int32) (a2 : Int32) (a3 : Int32) (a4 : Int32) : Option (Mm × Int32) :=
  if (fX8_isWalker a1) = 0 then some (mem, (-1 : Int32)) else bd (fX8_mayAccess mem a2 a3) (fun r2 => if r2 = 0 then some (mem, (-1 : Int32)) else gd a1 4 (lkN (23 + 1 + 2 * a1.toNatClampNeg) (fun b5 => if (mem b5 0) = (1 : Int32) then some (mem, (-1 : Int32)) else bw (fX8_startWalk mem b5 a2 a3 a4) (fun m8 r7 => some (m8, (m8 b5 0))))))
set_option maxRecDepth 100000 in
set_option maxHeartbeats 4000000 in
theorem kX8_begin {cap : Nat} (l : Launch) (D : va_G) (ca : Nat → ClassId) (ad : Nat → Nat) (mem : Mm) (a1 : Int32) (a2 : Int32) (a3 : Int32) (a4 : Int32)  {mem' : Mm} {r : Int32} (h : fX8_begin mem a1 a2 a3 a4 = some (mem', r)) : CtI l yX8_begin cX8_begin 6 (some .int) (rmx 6 136) D ca ad (layC cap) mem [.ref (ad 0), .int a1, .int a2, .int a3, .int a4] mem' r := by
  refine CtI.of (by decide) (Nat.le_of_ble_eq_true rfl) ?_
  intro p e s m args below meth c H locs ls X M w hl
  replace X : CallFix p m c cX8_begin 6 s args TT RX8 := X
  replace hl : lv_has ls 6 [(0, .ref (ad 0)), (1, .int a1), (2, .int a2), (3, .int a3), (4, .int a4)] := hl
  unfold fX8_begin at h
  refine lv_iload_n X.1 X.2.1 dX8_begin_0 rfl (lv_at hl 1 rfl) ?_
  refine r_cSi (As := [.int a1]) (rest := []) X w (kX8_isWalker (cap := cap) l D ca ad mem a1  rfl) (gTS tw_592 tw_593 tw_65 tw_594) hdX8_isWalker (by decide) rfl hl.1 rfl (Nat.le_of_ble_eq_true rfl) dX8_begin_1 ⟨Nat.zero_le _, Nat.zero_le _⟩ (fun H locs w => ?_)
  refine lv_if_eq (tgt := 16) X.1 X.2.1 dX8_begin_4 (by decide) (fun c1 => ?_) (fun c1 => ?_)
  · rw [if_pos c1] at h
    refine lv_iconst (v := (-1 : Int32)) X.1 X.2.1 dX8_begin_16 (by decide) ?_
    obtain ⟨rfl, rfl⟩ := Prod.mk.inj (Option.some.inj h)
    exact r_iret X M w dX8_begin_17
  · rw [if_neg c1] at h
    refine lv_aload_n X.1 X.2.1 dX8_begin_7 rfl (lv_at hl 0 rfl) ?_
    refine lv_iload_n X.1 X.2.1 dX8_begin_8 rfl (lv_at hl 2 rfl) ?_
    refine lv_iload_n X.1 X.2.1 dX8_begin_9 rfl (lv_at hl 3 rfl) ?_
    obtain ⟨r2, hr2, h⟩ := bd_some h
    refine r_cVi (As := [.int a2, .int a3]) (rest := []) X w lyC_0 rfl (kX8_mayAccess (cap := cap) l D ca ad mem a2 a3  hr2) (gTV tw_442 tw_444 tw_2 tw_65 tw_445) hdX8_mayAccess (by decide) rfl hl.1 rfl (Nat.le_of_ble_eq_true rfl) dX8_begin_10 ⟨Nat.zero_le _, Nat.zero_le _⟩ (fun H locs w => ?_)
    refine lv_if_ne (tgt := 18) X.1 X.2.1 dX8_begin_13 (by decide) (fun c3 => ?_) (fun c3 => ?_)
    · rw [if_neg c3] at h
      refine lv_aload_n X.1 X.2.1 dX8_begin_18 rfl (lv_at hl 0 rfl) ?_
      refine r_getr (b2 := 23) X w lyC_0 rfl inT8 5 rfl rfl (by decide) rfl tw_317 dX8_begin_19 ?_
      refine lv_iload_n X.1 X.2.1 dX8_begin_22 rfl (lv_at hl 1 rfl) ?_
      obtain ⟨hi4, h⟩ := gd_some h
      obtain ⟨b5, eb5, h⟩ := lkN_some h
      refine r_aald X w (t := 3) lyC_23 rfl hi4 eb5 dX8_begin_23 ?_
      have hb5 : isWk b5 := isWk_of hi4 eb5
      refine lv_astore (lv' := [(5, .ref (ad b5)), (0, .ref (ad 0)), (1, .int a1), (2, .int a2), (3, .int a3), (4, .int a4)]) X.1 X.2.1 dX8_begin_24 hl (by decide) rfl (fun ls hl => ?_)
      refine lv_aload X.1 X.2.1 dX8_begin_26 (lv_at hl 0 rfl) ?_
      refine r_get X w (lyWk hb5) rfl inT6 0 rfl (by decide) rfl tw_186 dX8_begin_28 ?_
      refine lv_iconst (v := (1 : Int32)) X.1 X.2.1 dX8_begin_31 (by decide) ?_
      refine lv_icmp_ne (tgt := 37) X.1 X.2.1 dX8_begin_32 (by decide) (fun c6 => ?_) (fun c6 => ?_)
      · rw [if_neg c6] at h
        refine lv_aload_n X.1 X.2.1 dX8_begin_37 rfl (lv_at hl 1 rfl) ?_
        refine lv_aload X.1 X.2.1 dX8_begin_38 (lv_at hl 0 rfl) ?_
        refine lv_iload_n X.1 X.2.1 dX8_begin_40 rfl (lv_at hl 3 rfl) ?_
        refine lv_iload_n X.1 X.2.1 dX8_begin_41 rfl (lv_at hl 4 rfl) ?_
        refine lv_iload X.1 X.2.1 dX8_begin_42 (lv_at hl 5 rfl) ?_
        obtain ⟨m8, r7, hr7, h⟩ := bw_some h
        refine r_cVv (As := [.ref (ad b5), .int a2, .int a3, .int a4]) (rest := []) X w lyC_0 rfl (kX8_startWalk (cap := cap) l D ca ad mem b5 a2 a3 a4 hb5 hr7) (gTV tw_492 tw_494 tw_6 tw_65 tw_495) hdX8_startWalk (by decide) rfl hl.1 rfl (Nat.le_of_ble_eq_true rfl) dX8_begin_44 ⟨Nat.zero_le _, Nat.zero_le _⟩ (fun H locs w => ?_)
        refine lv_aload X.1 X.2.1 dX8_begin_47 (lv_at hl 0 rfl) ?_
        refine r_get X w (lyWk hb5) rfl inT6 0 rfl (by decide) rfl tw_186 dX8_begin_49 ?_
        obtain ⟨rfl, rfl⟩ := Prod.mk.inj (Option.some.inj h)
        exact r_iret X M w dX8_begin_52
      · rw [if_pos c6] at h
        refine lv_iconst (v := (-1 : Int32)) X.1 X.2.1 dX8_begin_35 (by decide) ?_
        obtain ⟨rfl, rfl⟩ := Prod.mk.inj (Option.some.inj h)
        exact r_iret X M w dX8_begin_36
    · rw [if_pos c3] at h
      refine lv_iconst (v := (-1 : Int32)) X.1 X.2.1 dX8_begin_16 (by decide) ?_
      obtain ⟨rfl, rfl⟩ := Prod.mk.inj (Option.some.inj h)
      exact r_iret X M w dX8_begin_17
/-! WalkHouse.turn(I)I (W) -/
theorem hdX8_turn : yX8_turn.cls = RX8 ∧ yX8_turn.cls ≠ "java/lang/invoke/MethodHandle" ∧ yX8_turn.cls ≠ "java/lang/invoke/VarHandle" ∧ (parseMethodDescriptor yX8_turn.desc).map (fun d => d.parameters.length) = some 1 := by decide +kernel
def fX8_turn (mem : Mm) (a1 : Int32) : Option (Mm × Int32) :=
  if (fX8_isWalker a1) = 0 then some (mem, (-1 : Int32)) else gd a1 4 (lkN (23 + 1 + 2 * a1.toNatClampNeg) (fun b3 => if (mem b3 0) = (1 : Int32) then lk (mem b3 8) (fun x_5 => bw (fX8_readEntry mem b3 (1 : Int32)) (fun m7 r6 => wk m7 0 13 ((m7 0 13) + ((m7 b3 8) - x_5)) (fun m8 => some (m8, (m8 b3 0))))) else some (mem, (-1 : Int32))))
set_option maxRecDepth 100000 in
set_option maxHeartbeats 4000000 in
theorem kX8_turn {cap : Nat} (l : Launch) (D : va_G) (ca : Nat → ClassId) (ad : Nat → Nat) (mem : Mm) (a1 : Int32)  {mem' : Mm} {r : Int32} (h : fX8_turn mem a1 = some (mem', r)) : CtI l yX8_turn cX8_turn 4 (some .int) (rmx 5 115) D ca ad (layC cap) mem [.ref (ad 0), .int a1] mem' r := by
  refine CtI.of (by decide) (Nat.le_of_ble_eq_true rfl) ?_
  intro p e s m args below meth c H locs ls X M w hl
  replace X : CallFix p m c cX8_turn 4 s args TT RX8 := X
  replace hl : lv_has ls 4 [(0, .ref (ad 0)), (1, .int a1)] := hl
  unfold fX8_turn at h
  refine lv_iload_n X.1 X.2.1 dX8_turn_0 rfl (lv_at hl 1 rfl) ?_
  refine r_cSi (As := [.int a1]) (rest := []) X w (kX8_isWalker (cap := cap) l D ca ad mem a1  rfl) (gTS tw_592 tw_593 tw_65 tw_594) hdX8_isWalker (by decide) rfl hl.1 rfl (Nat.le_of_ble_eq_true rfl) dX8_turn_1 ⟨Nat.zero_le _, Nat.zero_le _⟩ (fun H locs w => ?_)
  refine lv_if_ne (tgt := 9) X.1 X.2.1 dX8_turn_4 (by decide) (fun c1 => ?_) (fun c1 => ?_)
  · rw [if_neg c1] at h
    refine lv_aload_n X.1 X.2.1 dX8_turn_9 rfl (lv_at hl 0 rfl) ?_
    refine r_getr (b2 := 23) X w lyC_0 rfl inT8 5 rfl rfl (by decide) rfl tw_317 dX8_turn_10 ?_
    refine lv_iload_n X.1 X.2.1 dX8_turn_13 rfl (lv_at hl 1 rfl) ?_
    obtain ⟨hi2, h⟩ := gd_some h
    obtain ⟨b3, eb3, h⟩ := lkN_some h
    refine r_aald X w (t := 3) lyC_23 rfl hi2 eb3 dX8_turn_14 ?_
    have hb3 : isWk b3 := isWk_of hi2 eb3
    refine lv_astore_n (lv' := [(2, .ref (ad b3)), (0, .ref (ad 0)), (1, .int a1)]) X.1 X.2.1 dX8_turn_15 rfl hl (by decide) rfl (fun ls hl => ?_)
    refine lv_aload_n X.1 X.2.1 dX8_turn_16 rfl (lv_at hl 0 rfl) ?_
    refine r_get X w (lyWk hb3) rfl inT6 0 rfl (by decide) rfl tw_186 dX8_turn_17 ?_
    refine lv_iconst (v := (1 : Int32)) X.1 X.2.1 dX8_turn_20 (by decide) ?_
    refine lv_icmp_eq (tgt := 26) X.1 X.2.1 dX8_turn_21 (by decide) (fun c4 => ?_) (fun c4 => ?_)
    · rw [if_pos c4] at h
      refine lv_aload_n X.1 X.2.1 dX8_turn_26 rfl (lv_at hl 0 rfl) ?_
      refine r_get X w (lyWk hb3) rfl inT6 8 rfl (by decide) rfl tw_202 dX8_turn_27 ?_
      obtain ⟨x_5, ex_5, h⟩ := lk_some h
      refine lv_name ex_5 ?_
      refine lv_istore_n (lv' := [(3, .int x_5), (2, .ref (ad b3)), (0, .ref (ad 0)), (1, .int a1)]) X.1 X.2.1 dX8_turn_30 rfl hl (by decide) rfl (fun ls hl => ?_)
      refine lv_aload_n X.1 X.2.1 dX8_turn_31 rfl (lv_at hl 2 rfl) ?_
      refine lv_aload_n X.1 X.2.1 dX8_turn_32 rfl (lv_at hl 1 rfl) ?_
      refine lv_iconst (v := (1 : Int32)) X.1 X.2.1 dX8_turn_33 (by decide) ?_
      obtain ⟨m7, r6, hr6, h⟩ := bw_some h
      refine r_cVv (As := [.ref (ad b3), .int (1 : Int32)]) (rest := []) X w lyC_0 rfl (kX8_readEntry (cap := cap) l D ca ad mem b3 (1 : Int32) hb3 hr6) (gTV tw_530 tw_532 tw_10 tw_65 tw_533) hdX8_readEntry (by decide) rfl hl.1 rfl (Nat.le_of_ble_eq_true rfl) dX8_turn_34 ⟨Nat.zero_le _, Nat.zero_le _⟩ (fun H locs w => ?_)
      refine lv_aload_n X.1 X.2.1 dX8_turn_37 rfl (lv_at hl 2 rfl) ?_
      refine lv_dup X.1 X.2.1 dX8_turn_38 rfl ?_
      refine r_get X w lyC_0 rfl inT8 13 rfl (by decide) rfl tw_325 dX8_turn_39 ?_
      refine lv_aload_n X.1 X.2.1 dX8_turn_42 rfl (lv_at hl 1 rfl) ?_
      refine r_get X w (lyWk hb3) rfl inT6 8 rfl (by decide) rfl tw_202 dX8_turn_43 ?_
      refine lv_iload_n X.1 X.2.1 dX8_turn_46 rfl (lv_at hl 0 rfl) ?_
      refine lv_isub X.1 X.2.1 dX8_turn_47 ?_
      refine lv_iadd X.1 X.2.1 dX8_turn_48 ?_
      refine r_put X w lyC_0 rfl inT8 tyX8 tyX8_ok nmX8 13 rfl (by decide) rfl rfl tw_325 rfl rfl dX8_turn_49 (fun H locs w => ?_)
      obtain ⟨m8, em8, h⟩ := wk_some h
      rw [em8] at w
      refine lv_aload_n X.1 X.2.1 dX8_turn_52 rfl (lv_at hl 1 rfl) ?_
      refine r_get X w (lyWk hb3) rfl inT6 0 rfl (by decide) rfl tw_186 dX8_turn_53 ?_
      obtain ⟨rfl, rfl⟩ := Prod.mk.inj (Option.some.inj h)
      exact r_iret X M w dX8_turn_56
    · rw [if_neg c4] at h
      refine lv_iconst (v := (-1 : Int32)) X.1 X.2.1 dX8_turn_24 (by decide) ?_
      obtain ⟨rfl, rfl⟩ := Prod.mk.inj (Option.some.inj h)
      exact r_iret X M w dX8_turn_25
  · rw [if_pos c1] at h
    refine lv_iconst (v := (-1 : Int32)) X.1 X.2.1 dX8_turn_7 (by decide) ?_
    obtain ⟨rfl, rfl⟩ := Prod.mk.inj (Option.some.inj h)
    exact r_iret X M w dX8_turn_8
/-! WalkHouse.walker(II)I (R) -/
theorem hdX8_walker : yX8_walker.cls = RX8 ∧ yX8_walker.cls ≠ "java/lang/invoke/MethodHandle" ∧ yX8_walker.cls ≠ "java/lang/invoke/VarHandle" ∧ (parseMethodDescriptor yX8_walker.desc).map (fun d => d.parameters.length) = some 2 := by decide +kernel
def fX8_walker (mem : Mm) (a1 : Int32) (a2 : Int32) : Option Int32 :=
  if (fX8_isWalker a1) = 0 then some (-1 : Int32) else gd a1 4 (lkN (23 + 1 + 2 * a1.toNatClampNeg) (fun b3 => if a2 = 0 then some (mem b3 0) else if (mem b3 0) = 0 then some (-1 : Int32) else if a2 = (1 : Int32) then some (mem b3 1) else if a2 = (2 : Int32) then some (mem b3 8) else if a2 = (3 : Int32) then if (mem b3 0) = (2 : Int32) then some (mem b3 9) else if (mem b3 0) = (3 : Int32) then some (mem b3 9) else some (-1 : Int32) else if a2 = (4 : Int32) then if (mem b3 0) = (1 : Int32) then some (mem b3 5) else some (-1 : Int32) else if a2 = (5 : Int32) then some (mem b3 4) else some (-1 : Int32)))
set_option maxRecDepth 100000 in
set_option maxHeartbeats 4000000 in
theorem kX8_walker {cap : Nat} (l : Launch) (D : va_G) (ca : Nat → ClassId) (ad : Nat → Nat) (mem : Mm) (a1 : Int32) (a2 : Int32)  {r : Int32} (h : fX8_walker mem a1 a2 = some r) : CtI l yX8_walker cX8_walker 4 (some .int) (rmx 1 20) D ca ad (layC cap) mem [.ref (ad 0), .int a1, .int a2] mem r := by
  refine CtI.of (by decide) (Nat.le_of_ble_eq_true rfl) ?_
  intro p e s m args below meth c H locs ls X M w hl
  replace X : CallFix p m c cX8_walker 4 s args TT RX8 := X
  replace hl : lv_has ls 4 [(0, .ref (ad 0)), (1, .int a1), (2, .int a2)] := hl
  unfold fX8_walker at h
  refine lv_iload_n X.1 X.2.1 dX8_walker_0 rfl (lv_at hl 1 rfl) ?_
  refine r_cSi (As := [.int a1]) (rest := []) X w (kX8_isWalker (cap := cap) l D ca ad mem a1  rfl) (gTS tw_592 tw_593 tw_65 tw_594) hdX8_isWalker (by decide) rfl hl.1 rfl (Nat.le_of_ble_eq_true rfl) dX8_walker_1 ⟨Nat.zero_le _, Nat.zero_le _⟩ (fun H locs w => ?_)
  refine lv_if_ne (tgt := 9) X.1 X.2.1 dX8_walker_4 (by decide) (fun c1 => ?_) (fun c1 => ?_)
  · rw [if_neg c1] at h
    refine lv_aload_n X.1 X.2.1 dX8_walker_9 rfl (lv_at hl 0 rfl) ?_
    refine r_getr (b2 := 23) X w lyC_0 rfl inT8 5 rfl rfl (by decide) rfl tw_317 dX8_walker_10 ?_
    refine lv_iload_n X.1 X.2.1 dX8_walker_13 rfl (lv_at hl 1 rfl) ?_
    obtain ⟨hi2, h⟩ := gd_some h
    obtain ⟨b3, eb3, h⟩ := lkN_some h
    refine r_aald X w (t := 3) lyC_23 rfl hi2 eb3 dX8_walker_14 ?_
    have hb3 : isWk b3 := isWk_of hi2 eb3
    refine lv_astore_n (lv' := [(3, .ref (ad b3)), (0, .ref (ad 0)), (1, .int a1), (2, .int a2)]) X.1 X.2.1 dX8_walker_15 rfl hl (by decide) rfl (fun ls hl => ?_)
    refine lv_iload_n X.1 X.2.1 dX8_walker_16 rfl (lv_at hl 3 rfl) ?_
    refine lv_if_ne (tgt := 25) X.1 X.2.1 dX8_walker_17 (by decide) (fun c4 => ?_) (fun c4 => ?_)
    · rw [if_neg c4] at h
      refine lv_aload_n X.1 X.2.1 dX8_walker_25 rfl (lv_at hl 0 rfl) ?_
      refine r_get X w (lyWk hb3) rfl inT6 0 rfl (by decide) rfl tw_186 dX8_walker_26 ?_
      refine lv_if_ne (tgt := 34) X.1 X.2.1 dX8_walker_29 (by decide) (fun c5 => ?_) (fun c5 => ?_)
      · rw [if_neg c5] at h
        refine lv_iload_n X.1 X.2.1 dX8_walker_34 rfl (lv_at hl 3 rfl) ?_
        by_cases c6 : a2 = (1 : Int32)
        · rw [if_pos c6] at h
          refine lv_tableIn (tgt := 68) X.1 X.2.1 dX8_walker_35 (by rw [c6]; decide) (by rw [c6]; decide) (by rw [c6]; rfl) (by decide) ?_
          refine lv_aload_n X.1 X.2.1 dX8_walker_68 rfl (lv_at hl 0 rfl) ?_
          refine r_get X w (lyWk hb3) rfl inT6 1 rfl (by decide) rfl tw_188 dX8_walker_69 ?_
          obtain rfl := Option.some.inj h
          exact r_iret X M w dX8_walker_72
        rw [if_neg c6] at h
        by_cases c7 : a2 = (2 : Int32)
        · rw [if_pos c7] at h
          refine lv_tableIn (tgt := 73) X.1 X.2.1 dX8_walker_35 (by rw [c7]; decide) (by rw [c7]; decide) (by rw [c7]; rfl) (by decide) ?_
          refine lv_aload_n X.1 X.2.1 dX8_walker_73 rfl (lv_at hl 0 rfl) ?_
          refine r_get X w (lyWk hb3) rfl inT6 8 rfl (by decide) rfl tw_202 dX8_walker_74 ?_
          obtain rfl := Option.some.inj h
          exact r_iret X M w dX8_walker_77
        rw [if_neg c7] at h
        by_cases c8 : a2 = (3 : Int32)
        · rw [if_pos c8] at h
          refine lv_tableIn (tgt := 78) X.1 X.2.1 dX8_walker_35 (by rw [c8]; decide) (by rw [c8]; decide) (by rw [c8]; rfl) (by decide) ?_
          refine lv_aload_n X.1 X.2.1 dX8_walker_78 rfl (lv_at hl 0 rfl) ?_
          refine r_get X w (lyWk hb3) rfl inT6 0 rfl (by decide) rfl tw_186 dX8_walker_79 ?_
          refine lv_iconst (v := (2 : Int32)) X.1 X.2.1 dX8_walker_82 (by decide) ?_
          refine lv_icmp_eq (tgt := 94) X.1 X.2.1 dX8_walker_83 (by decide) (fun c9 => ?_) (fun c9 => ?_)
          · rw [if_pos c9] at h
            refine lv_aload_n X.1 X.2.1 dX8_walker_94 rfl (lv_at hl 0 rfl) ?_
            refine r_get X w (lyWk hb3) rfl inT6 9 rfl (by decide) rfl tw_204 dX8_walker_95 ?_
            refine lv_goto (tgt := 102) X.1 X.2.1 dX8_walker_98 (by decide) ?_
            obtain rfl := Option.some.inj h
            exact r_iret X M w dX8_walker_102
          · rw [if_neg c9] at h
            refine lv_aload_n X.1 X.2.1 dX8_walker_86 rfl (lv_at hl 0 rfl) ?_
            refine r_get X w (lyWk hb3) rfl inT6 0 rfl (by decide) rfl tw_186 dX8_walker_87 ?_
            refine lv_iconst (v := (3 : Int32)) X.1 X.2.1 dX8_walker_90 (by decide) ?_
            refine lv_icmp_ne (tgt := 101) X.1 X.2.1 dX8_walker_91 (by decide) (fun c10 => ?_) (fun c10 => ?_)
            · rw [if_neg c10] at h
              refine lv_iconst (v := (-1 : Int32)) X.1 X.2.1 dX8_walker_101 (by decide) ?_
              obtain rfl := Option.some.inj h
              exact r_iret X M w dX8_walker_102
            · rw [if_pos c10] at h
              refine lv_aload_n X.1 X.2.1 dX8_walker_94 rfl (lv_at hl 0 rfl) ?_
              refine r_get X w (lyWk hb3) rfl inT6 9 rfl (by decide) rfl tw_204 dX8_walker_95 ?_
              refine lv_goto (tgt := 102) X.1 X.2.1 dX8_walker_98 (by decide) ?_
              obtain rfl := Option.some.inj h
              exact r_iret X M w dX8_walker_102
        rw [if_neg c8] at h
        by_cases c11 : a2 = (4 : Int32)
        · rw [if_pos c11] at h
          refine lv_tableIn (tgt := 103) X.1 X.2.1 dX8_walker_35 (by rw [c11]; decide) (by rw [c11]; decide) (by rw [c11]; rfl) (by decide) ?_
          refine lv_aload_n X.1 X.2.1 dX8_walker_103 rfl (lv_at hl 0 rfl) ?_
          refine r_get X w (lyWk hb3) rfl inT6 0 rfl (by decide) rfl tw_186 dX8_walker_104 ?_
          refine lv_iconst (v := (1 : Int32)) X.1 X.2.1 dX8_walker_107 (by decide) ?_
          refine lv_icmp_ne (tgt := 118) X.1 X.2.1 dX8_walker_108 (by decide) (fun c12 => ?_) (fun c12 => ?_)
          · rw [if_neg c12] at h
            refine lv_iconst (v := (-1 : Int32)) X.1 X.2.1 dX8_walker_118 (by decide) ?_
            obtain rfl := Option.some.inj h
            exact r_iret X M w dX8_walker_119
          · rw [if_pos c12] at h
            refine lv_aload_n X.1 X.2.1 dX8_walker_111 rfl (lv_at hl 0 rfl) ?_
            refine r_get X w (lyWk hb3) rfl inT6 5 rfl (by decide) rfl tw_196 dX8_walker_112 ?_
            refine lv_goto (tgt := 119) X.1 X.2.1 dX8_walker_115 (by decide) ?_
            obtain rfl := Option.some.inj h
            exact r_iret X M w dX8_walker_119
        rw [if_neg c11] at h
        by_cases c13 : a2 = (5 : Int32)
        · rw [if_pos c13] at h
          refine lv_tableIn (tgt := 120) X.1 X.2.1 dX8_walker_35 (by rw [c13]; decide) (by rw [c13]; decide) (by rw [c13]; rfl) (by decide) ?_
          refine lv_aload_n X.1 X.2.1 dX8_walker_120 rfl (lv_at hl 0 rfl) ?_
          refine r_get X w (lyWk hb3) rfl inT6 4 rfl (by decide) rfl tw_194 dX8_walker_121 ?_
          obtain rfl := Option.some.inj h
          exact r_iret X M w dX8_walker_124
        rw [if_neg c13] at h
        refine lv_tableOut (tgt := 125) X.1 X.2.1 dX8_walker_35 (sw_out 1 5 [(1 : Int32), (2 : Int32), (3 : Int32), (4 : Int32), (5 : Int32)] (fun z h1 h2 => by rcases (show z = 1 ∨ z = 2 ∨ z = 3 ∨ z = 4 ∨ z = 5 by omega) with rfl | rfl | rfl | rfl | rfl <;> decide) (by simp only [List.mem_cons, List.not_mem_nil, or_false, forall_eq_or_imp, forall_eq]; exact ⟨c6, c7, c8, c11, c13⟩)) (by decide) ?_
        refine lv_iconst (v := (-1 : Int32)) X.1 X.2.1 dX8_walker_125 (by decide) ?_
        obtain rfl := Option.some.inj h
        exact r_iret X M w dX8_walker_126
      · rw [if_pos c5] at h
        refine lv_iconst (v := (-1 : Int32)) X.1 X.2.1 dX8_walker_32 (by decide) ?_
        obtain rfl := Option.some.inj h
        exact r_iret X M w dX8_walker_33
    · rw [if_pos c4] at h
      refine lv_aload_n X.1 X.2.1 dX8_walker_20 rfl (lv_at hl 0 rfl) ?_
      refine r_get X w (lyWk hb3) rfl inT6 0 rfl (by decide) rfl tw_186 dX8_walker_21 ?_
      obtain rfl := Option.some.inj h
      exact r_iret X M w dX8_walker_24
  · rw [if_pos c1] at h
    refine lv_iconst (v := (-1 : Int32)) X.1 X.2.1 dX8_walker_7 (by decide) ?_
    obtain rfl := Option.some.inj h
    exact r_iret X M w dX8_walker_8
/-! WalkHouse.fenceSpace(I)I (W) -/
theorem hdX8_fenceSpace : yX8_fenceSpace.cls = RX8 ∧ yX8_fenceSpace.cls ≠ "java/lang/invoke/MethodHandle" ∧ yX8_fenceSpace.cls ≠ "java/lang/invoke/VarHandle" ∧ (parseMethodDescriptor yX8_fenceSpace.desc).map (fun d => d.parameters.length) = some 1 := by decide +kernel
def fX8_fenceSpace (mem : Mm) (a1 : Int32) : Option (Mm × Int32) :=
  if (fX8_isSpace a1) = 0 then some (mem, (-1 : Int32)) else gd a1 6 (lk (mem 5 a1.toNatClampNeg) (fun x_3 => bw (fX8_abortWalkersOf mem x_3) (fun m5 r4 => gd a1 6 (wk m5 41 a1.toNatClampNeg (m5 37 2) (fun m7 => bw (fX5_dropTag m7 7 x_3 (0 : Int32)) (fun m9 r8 => bw (fX5_dropTag m9 15 x_3 (0 : Int32)) (fun m11 r10 => some (m11, (r8 + r10)))))))))
set_option maxRecDepth 100000 in
set_option maxHeartbeats 4000000 in
theorem kX8_fenceSpace {cap : Nat} (l : Launch) (D : va_G) (ca : Nat → ClassId) (ad : Nat → Nat) (mem : Mm) (a1 : Int32)  {mem' : Mm} {r : Int32} (h : fX8_fenceSpace mem a1 = some (mem', r)) : CtI l yX8_fenceSpace cX8_fenceSpace 3 (some .int) (rmx 2 45) D ca ad (layC cap) mem [.ref (ad 0), .int a1] mem' r := by
  refine CtI.of (by decide) (Nat.le_of_ble_eq_true rfl) ?_
  intro p e s m args below meth c H locs ls X M w hl
  replace X : CallFix p m c cX8_fenceSpace 3 s args TT RX8 := X
  replace hl : lv_has ls 3 [(0, .ref (ad 0)), (1, .int a1)] := hl
  unfold fX8_fenceSpace at h
  refine lv_iload_n X.1 X.2.1 dX8_fenceSpace_0 rfl (lv_at hl 1 rfl) ?_
  refine r_cSi (As := [.int a1]) (rest := []) X w (kX8_isSpace (cap := cap) l D ca ad mem a1  rfl) (gTS tw_392 tw_393 tw_65 tw_394) hdX8_isSpace (by decide) rfl hl.1 rfl (Nat.le_of_ble_eq_true rfl) dX8_fenceSpace_1 ⟨Nat.zero_le _, Nat.zero_le _⟩ (fun H locs w => ?_)
  refine lv_if_ne (tgt := 9) X.1 X.2.1 dX8_fenceSpace_4 (by decide) (fun c1 => ?_) (fun c1 => ?_)
  · rw [if_neg c1] at h
    refine lv_aload_n X.1 X.2.1 dX8_fenceSpace_9 rfl (lv_at hl 0 rfl) ?_
    refine r_getr (b2 := 3) X w lyC_0 rfl inT8 2 rfl rfl (by decide) rfl tw_314 dX8_fenceSpace_10 ?_
    refine r_getr (b2 := 5) X w lyC_3 rfl inT4 1 rfl rfl (by decide) rfl tw_103 dX8_fenceSpace_13 ?_
    refine lv_iload_n X.1 X.2.1 dX8_fenceSpace_16 rfl (lv_at hl 1 rfl) ?_
    obtain ⟨hi2, h⟩ := gd_some h
    refine r_iald X w lyC_5 hi2 dX8_fenceSpace_17 ?_
    obtain ⟨x_3, ex_3, h⟩ := lk_some h
    refine lv_name ex_3 ?_
    refine lv_istore_n (lv' := [(2, .int x_3), (0, .ref (ad 0)), (1, .int a1)]) X.1 X.2.1 dX8_fenceSpace_18 rfl hl (by decide) rfl (fun ls hl => ?_)
    refine lv_aload_n X.1 X.2.1 dX8_fenceSpace_19 rfl (lv_at hl 1 rfl) ?_
    refine lv_iload_n X.1 X.2.1 dX8_fenceSpace_20 rfl (lv_at hl 0 rfl) ?_
    obtain ⟨m5, r4, hr4, h⟩ := bw_some h
    refine r_cVv (As := [.int x_3]) (rest := []) X w lyC_0 rfl (kX8_abortWalkersOf (cap := cap) l D ca ad mem x_3  hr4) (gTV tw_422 tw_424 tw_1 tw_65 tw_425) hdX8_abortWalkersOf (by decide) rfl hl.1 rfl (Nat.le_of_ble_eq_true rfl) dX8_fenceSpace_21 ⟨Nat.zero_le _, Nat.zero_le _⟩ (fun H locs w => ?_)
    refine lv_aload_n X.1 X.2.1 dX8_fenceSpace_24 rfl (lv_at hl 1 rfl) ?_
    refine r_getr (b2 := 40) X w lyC_0 rfl inT8 9 rfl rfl (by decide) rfl tw_321 dX8_fenceSpace_25 ?_
    refine r_getr (b2 := 41) X w lyC_40 rfl inT1 0 rfl rfl (by decide) rfl tw_285 dX8_fenceSpace_28 ?_
    refine lv_iload_n X.1 X.2.1 dX8_fenceSpace_31 rfl (lv_at hl 2 rfl) ?_
    refine lv_aload_n X.1 X.2.1 dX8_fenceSpace_32 rfl (lv_at hl 1 rfl) ?_
    refine r_getr (b2 := 37) X w lyC_0 rfl inT8 8 rfl rfl (by decide) rfl tw_320 dX8_fenceSpace_33 ?_
    refine r_get X w lyC_37 rfl inT0 2 rfl (by decide) rfl tw_270 dX8_fenceSpace_36 ?_
    obtain ⟨hi6, h⟩ := gd_some h
    refine r_iast X w lyC_41 hi6 dX8_fenceSpace_39 (fun H locs w => ?_)
    obtain ⟨m7, em7, h⟩ := wk_some h
    rw [em7] at w
    refine lv_aload_n X.1 X.2.1 dX8_fenceSpace_40 rfl (lv_at hl 1 rfl) ?_
    refine r_getr (b2 := 7) X w lyC_0 rfl inT8 3 rfl rfl (by decide) rfl tw_315 dX8_fenceSpace_41 ?_
    refine lv_iload_n X.1 X.2.1 dX8_fenceSpace_44 rfl (lv_at hl 0 rfl) ?_
    refine lv_iconst (v := (0 : Int32)) X.1 X.2.1 dX8_fenceSpace_45 (by decide) ?_
    obtain ⟨m9, r8, hr8, h⟩ := bw_some h
    refine r_cVi (As := [.int x_3, .int (0 : Int32)]) (rest := []) X w lyC_7 rfl (kX5_dropTag (cap := cap) l D ca ad m7 7 x_3 (0 : Int32) isSt7 hr8) (gTV tw_430 tw_431 tw_432 tw_68 tw_433) hdX5_dropTag (by decide) rfl hl.1 rfl (Nat.le_of_ble_eq_true rfl) dX8_fenceSpace_46 ⟨Nat.zero_le _, Nat.zero_le _⟩ (fun H locs w => ?_)
    refine lv_aload_n X.1 X.2.1 dX8_fenceSpace_49 rfl (lv_at hl 1 rfl) ?_
    refine r_getr (b2 := 15) X w lyC_0 rfl inT8 4 rfl rfl (by decide) rfl tw_316 dX8_fenceSpace_50 ?_
    refine lv_iload_n X.1 X.2.1 dX8_fenceSpace_53 rfl (lv_at hl 0 rfl) ?_
    refine lv_iconst (v := (0 : Int32)) X.1 X.2.1 dX8_fenceSpace_54 (by decide) ?_
    obtain ⟨m11, r10, hr10, h⟩ := bw_some h
    refine r_cVi (As := [.int x_3, .int (0 : Int32)]) (rest := [.int r8]) X w lyC_15 rfl (kX5_dropTag (cap := cap) l D ca ad m9 15 x_3 (0 : Int32) isSt15 hr10) (gTV tw_430 tw_431 tw_432 tw_68 tw_433) hdX5_dropTag (by decide) rfl hl.1 rfl (Nat.le_of_ble_eq_true rfl) dX8_fenceSpace_55 ⟨Nat.zero_le _, Nat.zero_le _⟩ (fun H locs w => ?_)
    refine lv_iadd X.1 X.2.1 dX8_fenceSpace_58 ?_
    obtain ⟨rfl, rfl⟩ := Prod.mk.inj (Option.some.inj h)
    exact r_iret X M w dX8_fenceSpace_59
  · rw [if_pos c1] at h
    refine lv_iconst (v := (-1 : Int32)) X.1 X.2.1 dX8_fenceSpace_7 (by decide) ?_
    obtain ⟨rfl, rfl⟩ := Prod.mk.inj (Option.some.inj h)
    exact r_iret X M w dX8_fenceSpace_8
/-! WalkHouse.fenceAll()I (W) -/
theorem hdX8_fenceAll : yX8_fenceAll.cls = RX8 ∧ yX8_fenceAll.cls ≠ "java/lang/invoke/MethodHandle" ∧ yX8_fenceAll.cls ≠ "java/lang/invoke/VarHandle" ∧ (parseMethodDescriptor yX8_fenceAll.desc).map (fun d => d.parameters.length) = some 0 := by decide +kernel
def fX8_fenceAll_b2_s  (k2 : Mm → Int32 → Option (Mm × Int32)) (mem : Mm) (x1 : Int32) : Option (Mm × Int32) :=
  if (4 : Int32) ≤ x1 then wk mem 40 1 (mem 37 2) (fun m2 => bw (fX5_dropAll m2 7) (fun m4 r3 => bw (fX5_dropAll m4 15) (fun m6 r5 => some (m6, (r3 + r5))))) else gd x1 4 (lkN (23 + 1 + 2 * x1.toNatClampNeg) (fun b8 => bw (fX6_abort mem b8) (fun m10 r9 => k2 m10 (x1 + (1 : Int32)))))
def fX8_fenceAll_b2  : Nat → Mm → Int32 → Option (Mm × Int32)
  | 0 => fun _ _ => none
  | n + 1 => fX8_fenceAll_b2_s  (fX8_fenceAll_b2  n)
set_option maxRecDepth 100000 in
set_option maxHeartbeats 4000000 in
theorem wX8_fenceAll_b2_s {p : Program} {l : Launch} {e : Env} {s : State} {m : MethodId} {args : Array Value} {below : List Frame} {meth : Method} {c : Code} {D : va_G} {ca : Nat → ClassId} {ad : Nat → Nat} {cap : Nat} {H : Heap} {locs : List Loc} {ls : Array Slot} {mem : Mm} {x1 : Int32}  {k2 : Mm → Int32 → Option (Mm × Int32)} {mem' : Mm} {r : Int32} (X : CallFix p m c cX8_fenceAll 2 s args TT RX8) (M : Mt meth (some .int))  (hk2 : ∀ (mem : Mm) (x1 : Int32) (H : Heap) (locs : List Loc) (ls : Array Slot) , Wd D ca ad (layC cap) (AA ad (layC cap).length) s.heap s mem H locs → lv_has ls 2 [(0, .ref (ad 0)), (1, .int x1)] → k2 mem x1 = some (mem', r) → W p l e (rmx 2 44) s m args below meth c H locs 0 0 (EndI D ca ad (layC cap) mem' r below args s) (F0 m 2 ls []))  (w : Wd D ca ad (layC cap) (AA ad (layC cap).length) s.heap s mem H locs) (hl : lv_has ls 2 [(0, .ref (ad 0)), (1, .int x1)]) (h : fX8_fenceAll_b2_s  k2 mem x1 = some (mem', r)) : W p l e (rmx 2 44) s m args below meth c H locs 0 0 (EndI D ca ad (layC cap) mem' r below args s) (F0 m 2 ls []) := by
  unfold fX8_fenceAll_b2_s at h
  refine lv_iload_n X.1 X.2.1 dX8_fenceAll_2 rfl (lv_at hl 1 rfl) ?_
  refine lv_iconst (v := (4 : Int32)) X.1 X.2.1 dX8_fenceAll_3 (by decide) ?_
  refine lv_icmp_ge (tgt := 22) X.1 X.2.1 dX8_fenceAll_4 (by decide) (fun c1 => ?_) (fun c1 => ?_)
  · rw [if_pos c1] at h
    refine lv_aload_n X.1 X.2.1 dX8_fenceAll_22 rfl (lv_at hl 0 rfl) ?_
    refine r_getr (b2 := 40) X w lyC_0 rfl inT8 9 rfl rfl (by decide) rfl tw_321 dX8_fenceAll_23 ?_
    refine lv_aload_n X.1 X.2.1 dX8_fenceAll_26 rfl (lv_at hl 0 rfl) ?_
    refine r_getr (b2 := 37) X w lyC_0 rfl inT8 8 rfl rfl (by decide) rfl tw_320 dX8_fenceAll_27 ?_
    refine r_get X w lyC_37 rfl inT0 2 rfl (by decide) rfl tw_270 dX8_fenceAll_30 ?_
    refine r_put X w lyC_40 rfl inT1 tyX1 tyX1_ok nmX1 1 rfl (by decide) rfl rfl tw_287 rfl rfl dX8_fenceAll_33 (fun H locs w => ?_)
    obtain ⟨m2, em2, h⟩ := wk_some h
    rw [em2] at w
    refine lv_aload_n X.1 X.2.1 dX8_fenceAll_36 rfl (lv_at hl 0 rfl) ?_
    refine r_getr (b2 := 7) X w lyC_0 rfl inT8 3 rfl rfl (by decide) rfl tw_315 dX8_fenceAll_37 ?_
    obtain ⟨m4, r3, hr3, h⟩ := bw_some h
    refine r_cVi (As := []) (rest := []) X w lyC_7 rfl (kX5_dropAll (cap := cap) l D ca ad m2 7 isSt7 hr3) (gTV tw_644 tw_645 tw_646 tw_68 tw_647) hdX5_dropAll (by decide) rfl hl.1 rfl (Nat.le_of_ble_eq_true rfl) dX8_fenceAll_40 ⟨Nat.zero_le _, Nat.zero_le _⟩ (fun H locs w => ?_)
    refine lv_aload_n X.1 X.2.1 dX8_fenceAll_43 rfl (lv_at hl 0 rfl) ?_
    refine r_getr (b2 := 15) X w lyC_0 rfl inT8 4 rfl rfl (by decide) rfl tw_316 dX8_fenceAll_44 ?_
    obtain ⟨m6, r5, hr5, h⟩ := bw_some h
    refine r_cVi (As := []) (rest := [.int r3]) X w lyC_15 rfl (kX5_dropAll (cap := cap) l D ca ad m4 15 isSt15 hr5) (gTV tw_644 tw_645 tw_646 tw_68 tw_647) hdX5_dropAll (by decide) rfl hl.1 rfl (Nat.le_of_ble_eq_true rfl) dX8_fenceAll_47 ⟨Nat.zero_le _, Nat.zero_le _⟩ (fun H locs w => ?_)
    refine lv_iadd X.1 X.2.1 dX8_fenceAll_50 ?_
    obtain ⟨rfl, rfl⟩ := Prod.mk.inj (Option.some.inj h)
    exact r_iret X M w dX8_fenceAll_51
  · rw [if_neg c1] at h
    refine lv_aload_n X.1 X.2.1 dX8_fenceAll_7 rfl (lv_at hl 0 rfl) ?_
    refine r_getr (b2 := 23) X w lyC_0 rfl inT8 5 rfl rfl (by decide) rfl tw_317 dX8_fenceAll_8 ?_
    refine lv_iload_n X.1 X.2.1 dX8_fenceAll_11 rfl (lv_at hl 1 rfl) ?_
    obtain ⟨hi7, h⟩ := gd_some h
    obtain ⟨b8, eb8, h⟩ := lkN_some h
    refine r_aald X w (t := 3) lyC_23 rfl hi7 eb8 dX8_fenceAll_12 ?_
    have hb8 : isWk b8 := isWk_of hi7 eb8
    obtain ⟨m10, r9, hr9, h⟩ := bw_some h
    refine r_cVv (As := []) (rest := []) X w (lyWk hb8) rfl (kX6_abort (cap := cap) l D ca ad mem b8 hb8 hr9) (gTV tw_426 tw_427 tw_428 tw_70 tw_429) hdX6_abort (by decide) rfl hl.1 rfl (Nat.le_of_ble_eq_true rfl) dX8_fenceAll_13 ⟨Nat.zero_le _, Nat.zero_le _⟩ (fun H locs w => ?_)
    refine lv_iinc (v := (x1 + (1 : Int32))) (lv' := [(1, .int (x1 + (1 : Int32))), (0, .ref (ad 0))]) X.1 X.2.1 dX8_fenceAll_16 hl (k := 1) rfl rfl (by decide) rfl (fun ls hl => ?_)
    refine lv_goto (tgt := 2) X.1 X.2.1 dX8_fenceAll_19 (by decide) ?_
    exact hk2 _ _ H locs ls w (lv_sub hl [1, 0] rfl) h
set_option maxRecDepth 100000 in
set_option maxHeartbeats 4000000 in
theorem wX8_fenceAll_b2 {p : Program} {l : Launch} {e : Env} {s : State} {m : MethodId} {args : Array Value} {below : List Frame} {meth : Method} {c : Code} {D : va_G} {ca : Nat → ClassId} {ad : Nat → Nat} {cap : Nat}  {mem' : Mm} {r : Int32} (X : CallFix p m c cX8_fenceAll 2 s args TT RX8) (M : Mt meth (some .int))  : ∀ (n : Nat) (mem : Mm) (x1 : Int32) (H : Heap) (locs : List Loc) (ls : Array Slot)  (_ : Wd D ca ad (layC cap) (AA ad (layC cap).length) s.heap s mem H locs) (_ : lv_has ls 2 [(0, .ref (ad 0)), (1, .int x1)]) (_ : fX8_fenceAll_b2  n mem x1 = some (mem', r)), W p l e (rmx 2 44) s m args below meth c H locs 0 0 (EndI D ca ad (layC cap) mem' r below args s) (F0 m 2 ls []) := by
  intro n
  induction n with
  | zero => intro mem x1 H locs ls  w hl h; exact (nofun : (none : Option (Mm × Int32)) = _ → _) h
  | succ n ih => intro mem x1 H locs ls  w hl h; exact wX8_fenceAll_b2_s X M  ih  w hl h
def fX8_fenceAll (mem : Mm)  : Option (Mm × Int32) :=
  fX8_fenceAll_b2 2000 mem (0 : Int32)
set_option maxRecDepth 100000 in
set_option maxHeartbeats 4000000 in
theorem kX8_fenceAll {cap : Nat} (l : Launch) (D : va_G) (ca : Nat → ClassId) (ad : Nat → Nat) (mem : Mm)   {mem' : Mm} {r : Int32} (h : fX8_fenceAll mem  = some (mem', r)) : CtI l yX8_fenceAll cX8_fenceAll 2 (some .int) (rmx 2 44) D ca ad (layC cap) mem [.ref (ad 0)] mem' r := by
  refine CtI.of (by decide) (Nat.le_of_ble_eq_true rfl) ?_
  intro p e s m args below meth c H locs ls X M w hl
  replace X : CallFix p m c cX8_fenceAll 2 s args TT RX8 := X
  replace hl : lv_has ls 2 [(0, .ref (ad 0))] := hl
  unfold fX8_fenceAll at h
  refine lv_iconst (v := (0 : Int32)) X.1 X.2.1 dX8_fenceAll_0 (by decide) ?_
  refine lv_istore_n (lv' := [(1, .int (0 : Int32)), (0, .ref (ad 0))]) X.1 X.2.1 dX8_fenceAll_1 rfl hl (by decide) rfl (fun ls hl => ?_)
  exact wX8_fenceAll_b2 X M _ _ _ H locs ls w (lv_sub hl [1, 0] rfl) h
/-! WalkHouse.trace(II)V (W) -/
theorem hdX8_trace : yX8_trace.cls = RX8 ∧ yX8_trace.cls ≠ "java/lang/invoke/MethodHandle" ∧ yX8_trace.cls ≠ "java/lang/invoke/VarHandle" ∧ (parseMethodDescriptor yX8_trace.desc).map (fun d => d.parameters.length) = some 2 := by decide +kernel
def fX8_trace_b38_s  (k38 : Mm → Int32 → Int32 → Int32 → Int32 → Option (Mm × Unit)) (mem : Mm) (x2 : Int32) (x3 : Int32) (x4 : Int32) (x5 : Int32) : Option (Mm × Unit) :=
  if x5 < 0 then wk mem 34 2 (3 : Int32) (fun m2 => some (m2, ())) else lk (fX8_cellOf x3 (fX8_digitOf x2 x5)) (fun x_3 => gd x_3 96 (lk (mem 1 x_3.toNatClampNeg) (fun x_5 => lk (x4 &&& (fX8_rightsOf x_5)) (fun x_6 => gd x5 3 (wk mem 35 x5.toNatClampNeg x_3 (fun m8 => gd x5 3 (wk m8 36 x5.toNatClampNeg x_6 (fun m10 => if (fX8_kindOf x_5) = 0 then wk m10 34 2 (2 : Int32) (fun m16 => some (m16, ())) else if (fX8_kindOf x_5) = (2 : Int32) then bw (fX7_end m10 x5 (fX8_targetOf x_5) (x_6 ||| ((fX8_rightsOf x_5) &&& (8 : Int32)))) (fun m15 r14 => some (m15, ())) else lk (fX8_targetOf x_5) (fun x_13 => k38 m10 x2 x_13 x_6 (x5 + (-1 : Int32)))))))))))
def fX8_trace_b38  : Nat → Mm → Int32 → Int32 → Int32 → Int32 → Option (Mm × Unit)
  | 0 => fun _ _ _ _ _ => none
  | n + 1 => fX8_trace_b38_s  (fX8_trace_b38  n)
set_option maxRecDepth 100000 in
set_option maxHeartbeats 4000000 in
theorem wX8_trace_b38_s {p : Program} {l : Launch} {e : Env} {s : State} {m : MethodId} {args : Array Value} {below : List Frame} {meth : Method} {c : Code} {D : va_G} {ca : Nat → ClassId} {ad : Nat → Nat} {cap : Nat} {H : Heap} {locs : List Loc} {ls : Array Slot} {mem : Mm} {x2 : Int32} {x3 : Int32} {x4 : Int32} {x5 : Int32}  {k38 : Mm → Int32 → Int32 → Int32 → Int32 → Option (Mm × Unit)} {mem' : Mm} {r : Unit} (X : CallFix p m c cX8_trace 8 s args TT RX8) (M : Mt meth none)  (hk38 : ∀ (mem : Mm) (x2 : Int32) (x3 : Int32) (x4 : Int32) (x5 : Int32) (H : Heap) (locs : List Loc) (ls : Array Slot) , Wd D ca ad (layC cap) (AA ad (layC cap).length) s.heap s mem H locs → lv_has ls 8 [(0, .ref (ad 0)), (2, .int x2), (3, .int x3), (4, .int x4), (5, .int x5)] → k38 mem x2 x3 x4 x5 = some (mem', r) → W p l e (rmx 2 43) s m args below meth c H locs 0 0 (EndV D ca ad (layC cap) mem' below args s) (F0 m 38 ls []))  (w : Wd D ca ad (layC cap) (AA ad (layC cap).length) s.heap s mem H locs) (hl : lv_has ls 8 [(0, .ref (ad 0)), (2, .int x2), (3, .int x3), (4, .int x4), (5, .int x5)]) (h : fX8_trace_b38_s  k38 mem x2 x3 x4 x5 = some (mem', r)) : W p l e (rmx 2 43) s m args below meth c H locs 0 0 (EndV D ca ad (layC cap) mem' below args s) (F0 m 38 ls []) := by
  unfold fX8_trace_b38_s at h
  refine lv_iload X.1 X.2.1 dX8_trace_38 (lv_at hl 4 rfl) ?_
  refine lv_if_lt (tgt := 162) X.1 X.2.1 dX8_trace_40 (by decide) (fun c1 => ?_) (fun c1 => ?_)
  · rw [if_pos c1] at h
    refine lv_aload_n X.1 X.2.1 dX8_trace_162 rfl (lv_at hl 0 rfl) ?_
    refine r_getr (b2 := 34) X w lyC_0 rfl inT8 7 rfl rfl (by decide) rfl tw_319 dX8_trace_163 ?_
    refine lv_iconst (v := (3 : Int32)) X.1 X.2.1 dX8_trace_166 (by decide) ?_
    refine r_put X w lyC_34 rfl inT7 tyX7 tyX7_ok nmX7 2 rfl (by decide) rfl rfl tw_241 rfl rfl dX8_trace_167 (fun H locs w => ?_)
    obtain ⟨m2, em2, h⟩ := wk_some h
    rw [em2] at w
    obtain ⟨rfl, -⟩ := Prod.mk.inj (Option.some.inj h)
    exact r_vret X M w dX8_trace_170
  · rw [if_neg c1] at h
    refine lv_iload_n X.1 X.2.1 dX8_trace_43 rfl (lv_at hl 2 rfl) ?_
    refine lv_iload_n X.1 X.2.1 dX8_trace_44 rfl (lv_at hl 1 rfl) ?_
    refine lv_iload X.1 X.2.1 dX8_trace_45 (lv_at hl 4 rfl) ?_
    refine r_cSi (As := [.int x2, .int x5]) (rest := [.int x3]) X w (kX8_digitOf (cap := cap) l D ca ad mem x2 x5  rfl) (gTS tw_534 tw_535 tw_65 tw_536) hdX8_digitOf (by decide) rfl hl.1 rfl (Nat.le_of_ble_eq_true rfl) dX8_trace_47 ⟨Nat.zero_le _, Nat.zero_le _⟩ (fun H locs w => ?_)
    refine r_cSi (As := [.int x3, .int (fX8_digitOf x2 x5)]) (rest := []) X w (kX8_cellOf (cap := cap) l D ca ad mem x3 (fX8_digitOf x2 x5)  rfl) (gTS tw_371 tw_372 tw_65 tw_373) hdX8_cellOf (by decide) rfl hl.1 rfl (Nat.le_of_ble_eq_true rfl) dX8_trace_50 ⟨Nat.zero_le _, Nat.zero_le _⟩ (fun H locs w => ?_)
    obtain ⟨x_3, ex_3, h⟩ := lk_some h
    refine lv_name ex_3 ?_
    refine lv_istore (lv' := [(6, .int x_3), (0, .ref (ad 0)), (2, .int x2), (3, .int x3), (4, .int x4), (5, .int x5)]) X.1 X.2.1 dX8_trace_53 hl (by decide) rfl (fun ls hl => ?_)
    refine lv_aload_n X.1 X.2.1 dX8_trace_55 rfl (lv_at hl 1 rfl) ?_
    refine r_getr (b2 := 1) X w lyC_0 rfl inT8 0 rfl rfl (by decide) rfl tw_312 dX8_trace_56 ?_
    refine lv_iload X.1 X.2.1 dX8_trace_59 (lv_at hl 0 rfl) ?_
    obtain ⟨hi4, h⟩ := gd_some h
    refine r_iald X w lyC_1 hi4 dX8_trace_61 ?_
    obtain ⟨x_5, ex_5, h⟩ := lk_some h
    refine lv_name ex_5 ?_
    refine lv_istore (lv' := [(7, .int x_5), (6, .int x_3), (0, .ref (ad 0)), (2, .int x2), (3, .int x3), (4, .int x4), (5, .int x5)]) X.1 X.2.1 dX8_trace_62 hl (by decide) rfl (fun ls hl => ?_)
    refine lv_iload X.1 X.2.1 dX8_trace_64 (lv_at hl 5 rfl) ?_
    refine lv_iload X.1 X.2.1 dX8_trace_66 (lv_at hl 0 rfl) ?_
    refine r_cSi (As := [.int x_5]) (rest := [.int x4]) X w (kX8_rightsOf (cap := cap) l D ca ad mem x_5  rfl) (gTS tw_537 tw_538 tw_65 tw_539) hdX8_rightsOf (by decide) rfl hl.1 rfl (Nat.le_of_ble_eq_true rfl) dX8_trace_68 ⟨Nat.zero_le _, Nat.zero_le _⟩ (fun H locs w => ?_)
    refine lv_iand X.1 X.2.1 dX8_trace_71 ?_
    obtain ⟨x_6, ex_6, h⟩ := lk_some h
    refine lv_name ex_6 ?_
    refine lv_istore (lv' := [(4, .int x_6), (7, .int x_5), (6, .int x_3), (0, .ref (ad 0)), (2, .int x2), (3, .int x3), (5, .int x5)]) X.1 X.2.1 dX8_trace_72 hl (by decide) rfl (fun ls hl => ?_)
    refine lv_aload_n X.1 X.2.1 dX8_trace_74 rfl (lv_at hl 3 rfl) ?_
    refine r_getr (b2 := 34) X w lyC_0 rfl inT8 7 rfl rfl (by decide) rfl tw_319 dX8_trace_75 ?_
    refine r_getr (b2 := 35) X w lyC_34 rfl inT7 0 rfl rfl (by decide) rfl tw_237 dX8_trace_78 ?_
    refine lv_iload X.1 X.2.1 dX8_trace_81 (lv_at hl 6 rfl) ?_
    refine lv_iload X.1 X.2.1 dX8_trace_83 (lv_at hl 2 rfl) ?_
    obtain ⟨hi7, h⟩ := gd_some h
    refine r_iast X w lyC_35 hi7 dX8_trace_85 (fun H locs w => ?_)
    obtain ⟨m8, em8, h⟩ := wk_some h
    rw [em8] at w
    refine lv_aload_n X.1 X.2.1 dX8_trace_86 rfl (lv_at hl 3 rfl) ?_
    refine r_getr (b2 := 34) X w lyC_0 rfl inT8 7 rfl rfl (by decide) rfl tw_319 dX8_trace_87 ?_
    refine r_getr (b2 := 36) X w lyC_34 rfl inT7 1 rfl rfl (by decide) rfl tw_239 dX8_trace_90 ?_
    refine lv_iload X.1 X.2.1 dX8_trace_93 (lv_at hl 6 rfl) ?_
    refine lv_iload X.1 X.2.1 dX8_trace_95 (lv_at hl 0 rfl) ?_
    obtain ⟨hi9, h⟩ := gd_some h
    refine r_iast X w lyC_36 hi9 dX8_trace_97 (fun H locs w => ?_)
    obtain ⟨m10, em10, h⟩ := wk_some h
    rw [em10] at w
    refine lv_iload X.1 X.2.1 dX8_trace_98 (lv_at hl 1 rfl) ?_
    refine r_cSi (As := [.int x_5]) (rest := []) X w (kX8_kindOf (cap := cap) l D ca ad m10 x_5  rfl) (gTS tw_381 tw_382 tw_65 tw_383) hdX8_kindOf (by decide) rfl hl.1 rfl (Nat.le_of_ble_eq_true rfl) dX8_trace_100 ⟨Nat.zero_le _, Nat.zero_le _⟩ (fun H locs w => ?_)
    refine lv_if_ne (tgt := 115) X.1 X.2.1 dX8_trace_103 (by decide) (fun c11 => ?_) (fun c11 => ?_)
    · rw [if_neg c11] at h
      refine lv_iload X.1 X.2.1 dX8_trace_115 (lv_at hl 1 rfl) ?_
      refine r_cSi (As := [.int x_5]) (rest := []) X w (kX8_kindOf (cap := cap) l D ca ad m10 x_5  rfl) (gTS tw_381 tw_382 tw_65 tw_383) hdX8_kindOf (by decide) rfl hl.1 rfl (Nat.le_of_ble_eq_true rfl) dX8_trace_117 ⟨Nat.zero_le _, Nat.zero_le _⟩ (fun H locs w => ?_)
      refine lv_iconst (v := (2 : Int32)) X.1 X.2.1 dX8_trace_120 (by decide) ?_
      refine lv_icmp_ne (tgt := 150) X.1 X.2.1 dX8_trace_121 (by decide) (fun c12 => ?_) (fun c12 => ?_)
      · rw [if_neg c12] at h
        refine lv_iload X.1 X.2.1 dX8_trace_150 (lv_at hl 1 rfl) ?_
        refine r_cSi (As := [.int x_5]) (rest := []) X w (kX8_targetOf (cap := cap) l D ca ad m10 x_5  rfl) (gTS tw_565 tw_566 tw_65 tw_567) hdX8_targetOf (by decide) rfl hl.1 rfl (Nat.le_of_ble_eq_true rfl) dX8_trace_152 ⟨Nat.zero_le _, Nat.zero_le _⟩ (fun H locs w => ?_)
        obtain ⟨x_13, ex_13, h⟩ := lk_some h
        refine lv_name ex_13 ?_
        refine lv_istore_n (lv' := [(3, .int x_13), (4, .int x_6), (7, .int x_5), (6, .int x_3), (0, .ref (ad 0)), (2, .int x2), (5, .int x5)]) X.1 X.2.1 dX8_trace_155 rfl hl (by decide) rfl (fun ls hl => ?_)
        refine lv_iinc (v := (x5 + (-1 : Int32))) (lv' := [(5, .int (x5 + (-1 : Int32))), (3, .int x_13), (4, .int x_6), (7, .int x_5), (6, .int x_3), (0, .ref (ad 0)), (2, .int x2)]) X.1 X.2.1 dX8_trace_156 hl (k := 6) rfl rfl (by decide) rfl (fun ls hl => ?_)
        refine lv_goto (tgt := 38) X.1 X.2.1 dX8_trace_159 (by decide) ?_
        exact hk38 _ _ _ _ _ H locs ls w (lv_sub hl [5, 6, 1, 2, 0] rfl) h
      · rw [if_pos c12] at h
        refine lv_aload_n X.1 X.2.1 dX8_trace_124 rfl (lv_at hl 3 rfl) ?_
        refine r_getr (b2 := 34) X w lyC_0 rfl inT8 7 rfl rfl (by decide) rfl tw_319 dX8_trace_125 ?_
        refine lv_iload X.1 X.2.1 dX8_trace_128 (lv_at hl 6 rfl) ?_
        refine lv_iload X.1 X.2.1 dX8_trace_130 (lv_at hl 1 rfl) ?_
        refine r_cSi (As := [.int x_5]) (rest := [.int x5, .ref (ad 34)]) X w (kX8_targetOf (cap := cap) l D ca ad m10 x_5  rfl) (gTS tw_565 tw_566 tw_65 tw_567) hdX8_targetOf (by decide) rfl hl.1 rfl (Nat.le_of_ble_eq_true rfl) dX8_trace_132 ⟨Nat.zero_le _, Nat.zero_le _⟩ (fun H locs w => ?_)
        refine lv_iload X.1 X.2.1 dX8_trace_135 (lv_at hl 0 rfl) ?_
        refine lv_iload X.1 X.2.1 dX8_trace_137 (lv_at hl 1 rfl) ?_
        refine r_cSi (As := [.int x_5]) (rest := [.int x_6, .int (fX8_targetOf x_5), .int x5, .ref (ad 34)]) X w (kX8_rightsOf (cap := cap) l D ca ad m10 x_5  rfl) (gTS tw_537 tw_538 tw_65 tw_539) hdX8_rightsOf (by decide) rfl hl.1 rfl (Nat.le_of_ble_eq_true rfl) dX8_trace_139 ⟨Nat.zero_le _, Nat.zero_le _⟩ (fun H locs w => ?_)
        refine lv_bipush (v := (8 : Int32)) X.1 X.2.1 dX8_trace_142 (by decide) ?_
        refine lv_iand X.1 X.2.1 dX8_trace_144 ?_
        refine lv_ior X.1 X.2.1 dX8_trace_145 ?_
        obtain ⟨m15, r14, hr14, h⟩ := bw_some h
        refine r_cVv (As := [.int x5, .int (fX8_targetOf x_5), .int (x_6 ||| ((fX8_rightsOf x_5) &&& (8 : Int32)))]) (rest := []) X w lyC_34 rfl (kX7_end (cap := cap) l D ca ad m10 x5 (fX8_targetOf x_5) (x_6 ||| ((fX8_rightsOf x_5) &&& (8 : Int32)))  hr14) (gTV tw_665 tw_666 tw_667 tw_71 tw_668) hdX7_end (by decide) rfl hl.1 rfl (Nat.le_of_ble_eq_true rfl) dX8_trace_146 ⟨Nat.zero_le _, Nat.zero_le _⟩ (fun H locs w => ?_)
        obtain ⟨rfl, -⟩ := Prod.mk.inj (Option.some.inj h)
        exact r_vret X M w dX8_trace_149
    · rw [if_pos c11] at h
      refine lv_aload_n X.1 X.2.1 dX8_trace_106 rfl (lv_at hl 3 rfl) ?_
      refine r_getr (b2 := 34) X w lyC_0 rfl inT8 7 rfl rfl (by decide) rfl tw_319 dX8_trace_107 ?_
      refine lv_iconst (v := (2 : Int32)) X.1 X.2.1 dX8_trace_110 (by decide) ?_
      refine r_put X w lyC_34 rfl inT7 tyX7 tyX7_ok nmX7 2 rfl (by decide) rfl rfl tw_241 rfl rfl dX8_trace_111 (fun H locs w => ?_)
      obtain ⟨m16, em16, h⟩ := wk_some h
      rw [em16] at w
      obtain ⟨rfl, -⟩ := Prod.mk.inj (Option.some.inj h)
      exact r_vret X M w dX8_trace_114
set_option maxRecDepth 100000 in
set_option maxHeartbeats 4000000 in
theorem wX8_trace_b38 {p : Program} {l : Launch} {e : Env} {s : State} {m : MethodId} {args : Array Value} {below : List Frame} {meth : Method} {c : Code} {D : va_G} {ca : Nat → ClassId} {ad : Nat → Nat} {cap : Nat}  {mem' : Mm} {r : Unit} (X : CallFix p m c cX8_trace 8 s args TT RX8) (M : Mt meth none)  : ∀ (n : Nat) (mem : Mm) (x2 : Int32) (x3 : Int32) (x4 : Int32) (x5 : Int32) (H : Heap) (locs : List Loc) (ls : Array Slot)  (_ : Wd D ca ad (layC cap) (AA ad (layC cap).length) s.heap s mem H locs) (_ : lv_has ls 8 [(0, .ref (ad 0)), (2, .int x2), (3, .int x3), (4, .int x4), (5, .int x5)]) (_ : fX8_trace_b38  n mem x2 x3 x4 x5 = some (mem', r)), W p l e (rmx 2 43) s m args below meth c H locs 0 0 (EndV D ca ad (layC cap) mem' below args s) (F0 m 38 ls []) := by
  intro n
  induction n with
  | zero => intro mem x2 x3 x4 x5 H locs ls  w hl h; exact (nofun : (none : Option (Mm × Unit)) = _ → _) h
  | succ n ih => intro mem x2 x3 x4 x5 H locs ls  w hl h; exact wX8_trace_b38_s X M  ih  w hl h
def fX8_trace (mem : Mm) (a1 : Int32) (a2 : Int32) : Option (Mm × Unit) :=
  bw (fX7_reset mem) (fun m2 r1 => gd a1 6 (lk (m2 4 a1.toNatClampNeg) (fun x_4 => if x_4 = (-1 : Int32) then wk m2 34 2 (1 : Int32) (fun m6 => some (m6, ())) else fX8_trace_b38 2000 m2 a2 x_4 (7 : Int32) (2 : Int32))))
set_option maxRecDepth 100000 in
set_option maxHeartbeats 4000000 in
theorem kX8_trace {cap : Nat} (l : Launch) (D : va_G) (ca : Nat → ClassId) (ad : Nat → Nat) (mem : Mm) (a1 : Int32) (a2 : Int32)  {mem' : Mm} {r : Unit} (h : fX8_trace mem a1 a2 = some (mem', r)) : CtV l yX8_trace cX8_trace 8 none (rmx 2 43) D ca ad (layC cap) mem [.ref (ad 0), .int a1, .int a2] mem' := by
  refine CtV.of (by decide) (Nat.le_of_ble_eq_true rfl) ?_
  intro p e s m args below meth c H locs ls X M w hl
  replace X : CallFix p m c cX8_trace 8 s args TT RX8 := X
  replace hl : lv_has ls 8 [(0, .ref (ad 0)), (1, .int a1), (2, .int a2)] := hl
  unfold fX8_trace at h
  refine lv_aload_n X.1 X.2.1 dX8_trace_0 rfl (lv_at hl 0 rfl) ?_
  refine r_getr (b2 := 34) X w lyC_0 rfl inT8 7 rfl rfl (by decide) rfl tw_319 dX8_trace_1 ?_
  obtain ⟨m2, r1, hr1, h⟩ := bw_some h
  refine r_cVv (As := []) (rest := []) X w lyC_34 rfl (kX7_reset (cap := cap) l D ca ad mem   hr1) (gTV tw_660 tw_661 tw_662 tw_71 tw_663) hdX7_reset (by decide) rfl hl.1 rfl (Nat.le_of_ble_eq_true rfl) dX8_trace_4 ⟨Nat.zero_le _, Nat.zero_le _⟩ (fun H locs w => ?_)
  refine lv_aload_n X.1 X.2.1 dX8_trace_7 rfl (lv_at hl 0 rfl) ?_
  refine r_getr (b2 := 3) X w lyC_0 rfl inT8 2 rfl rfl (by decide) rfl tw_314 dX8_trace_8 ?_
  refine r_getr (b2 := 4) X w lyC_3 rfl inT4 0 rfl rfl (by decide) rfl tw_101 dX8_trace_11 ?_
  refine lv_iload_n X.1 X.2.1 dX8_trace_14 rfl (lv_at hl 1 rfl) ?_
  obtain ⟨hi3, h⟩ := gd_some h
  refine r_iald X w lyC_4 hi3 dX8_trace_15 ?_
  obtain ⟨x_4, ex_4, h⟩ := lk_some h
  refine lv_name ex_4 ?_
  refine lv_istore_n (lv' := [(3, .int x_4), (0, .ref (ad 0)), (1, .int a1), (2, .int a2)]) X.1 X.2.1 dX8_trace_16 rfl hl (by decide) rfl (fun ls hl => ?_)
  refine lv_iload_n X.1 X.2.1 dX8_trace_17 rfl (lv_at hl 0 rfl) ?_
  refine lv_iconst (v := (-1 : Int32)) X.1 X.2.1 dX8_trace_18 (by decide) ?_
  refine lv_icmp_ne (tgt := 31) X.1 X.2.1 dX8_trace_19 (by decide) (fun c5 => ?_) (fun c5 => ?_)
  · rw [if_neg c5] at h
    refine lv_bipush (v := (7 : Int32)) X.1 X.2.1 dX8_trace_31 (by decide) ?_
    refine lv_istore (lv' := [(4, .int (7 : Int32)), (3, .int x_4), (0, .ref (ad 0)), (1, .int a1), (2, .int a2)]) X.1 X.2.1 dX8_trace_33 hl (by decide) rfl (fun ls hl => ?_)
    refine lv_iconst (v := (2 : Int32)) X.1 X.2.1 dX8_trace_35 (by decide) ?_
    refine lv_istore (lv' := [(5, .int (2 : Int32)), (4, .int (7 : Int32)), (3, .int x_4), (0, .ref (ad 0)), (1, .int a1), (2, .int a2)]) X.1 X.2.1 dX8_trace_36 hl (by decide) rfl (fun ls hl => ?_)
    exact wX8_trace_b38 X M _ _ _ _ _ _ H locs ls w (lv_sub hl [3, 5, 2, 1, 0] rfl) h
  · rw [if_pos c5] at h
    refine lv_aload_n X.1 X.2.1 dX8_trace_22 rfl (lv_at hl 1 rfl) ?_
    refine r_getr (b2 := 34) X w lyC_0 rfl inT8 7 rfl rfl (by decide) rfl tw_319 dX8_trace_23 ?_
    refine lv_iconst (v := (1 : Int32)) X.1 X.2.1 dX8_trace_26 (by decide) ?_
    refine r_put X w lyC_34 rfl inT7 tyX7 tyX7_ok nmX7 2 rfl (by decide) rfl rfl tw_241 rfl rfl dX8_trace_27 (fun H locs w => ?_)
    obtain ⟨m6, em6, h⟩ := wk_some h
    rw [em6] at w
    obtain ⟨rfl, -⟩ := Prod.mk.inj (Option.some.inj h)
    exact r_vret X M w dX8_trace_30
/-! WalkHouse.way(III)I (W) -/
theorem hdX8_way : yX8_way.cls = RX8 ∧ yX8_way.cls ≠ "java/lang/invoke/MethodHandle" ∧ yX8_way.cls ≠ "java/lang/invoke/VarHandle" ∧ (parseMethodDescriptor yX8_way.desc).map (fun d => d.parameters.length) = some 3 := by decide +kernel
def fX8_way (mem : Mm) (a1 : Int32) (a2 : Int32) (a3 : Int32) : Option (Mm × Int32) :=
  if (fX8_isSpace a1) = 0 then some (mem, (-1 : Int32)) else if (fX8_isAddress a2) = 0 then some (mem, (-1 : Int32)) else bw (fX8_trace mem a1 a2) (fun m4 r3 => if a3 = 0 then if (m4 34 2) = 0 then bd (fX7_frameAt m4 a2) (fun r13 => some (m4, r13)) else some (m4, ((-2 : Int32) - (m4 34 2))) else if (m4 34 2) = 0 then if a3 = (1 : Int32) then some (m4, (m4 34 3)) else if a3 = (2 : Int32) then some (m4, (m4 34 5)) else if a3 = (3 : Int32) then gd (m4 34 3) 3 (gd (m4 35 (m4 34 3).toNatClampNeg) 96 (some (m4, (m4 2 (m4 35 (m4 34 3).toNatClampNeg).toNatClampNeg)))) else some (m4, (-1 : Int32)) else some (m4, (-1 : Int32)))
set_option maxRecDepth 100000 in
set_option maxHeartbeats 4000000 in
theorem kX8_way {cap : Nat} (l : Launch) (D : va_G) (ca : Nat → ClassId) (ad : Nat → Nat) (mem : Mm) (a1 : Int32) (a2 : Int32) (a3 : Int32)  {mem' : Mm} {r : Int32} (h : fX8_way mem a1 a2 a3 = some (mem', r)) : CtI l yX8_way cX8_way 4 (some .int) (rmx 3 70) D ca ad (layC cap) mem [.ref (ad 0), .int a1, .int a2, .int a3] mem' r := by
  refine CtI.of (by decide) (Nat.le_of_ble_eq_true rfl) ?_
  intro p e s m args below meth c H locs ls X M w hl
  replace X : CallFix p m c cX8_way 4 s args TT RX8 := X
  replace hl : lv_has ls 4 [(0, .ref (ad 0)), (1, .int a1), (2, .int a2), (3, .int a3)] := hl
  unfold fX8_way at h
  refine lv_iload_n X.1 X.2.1 dX8_way_0 rfl (lv_at hl 1 rfl) ?_
  refine r_cSi (As := [.int a1]) (rest := []) X w (kX8_isSpace (cap := cap) l D ca ad mem a1  rfl) (gTS tw_392 tw_393 tw_65 tw_394) hdX8_isSpace (by decide) rfl hl.1 rfl (Nat.le_of_ble_eq_true rfl) dX8_way_1 ⟨Nat.zero_le _, Nat.zero_le _⟩ (fun H locs w => ?_)
  refine lv_if_eq (tgt := 14) X.1 X.2.1 dX8_way_4 (by decide) (fun c1 => ?_) (fun c1 => ?_)
  · rw [if_pos c1] at h
    refine lv_iconst (v := (-1 : Int32)) X.1 X.2.1 dX8_way_14 (by decide) ?_
    obtain ⟨rfl, rfl⟩ := Prod.mk.inj (Option.some.inj h)
    exact r_iret X M w dX8_way_15
  · rw [if_neg c1] at h
    refine lv_iload_n X.1 X.2.1 dX8_way_7 rfl (lv_at hl 2 rfl) ?_
    refine r_cSi (As := [.int a2]) (rest := []) X w (kX8_isAddress (cap := cap) l D ca ad mem a2  rfl) (gTS tw_446 tw_447 tw_65 tw_448) hdX8_isAddress (by decide) rfl hl.1 rfl (Nat.le_of_ble_eq_true rfl) dX8_way_8 ⟨Nat.zero_le _, Nat.zero_le _⟩ (fun H locs w => ?_)
    refine lv_if_ne (tgt := 16) X.1 X.2.1 dX8_way_11 (by decide) (fun c2 => ?_) (fun c2 => ?_)
    · rw [if_neg c2] at h
      refine lv_aload_n X.1 X.2.1 dX8_way_16 rfl (lv_at hl 0 rfl) ?_
      refine lv_iload_n X.1 X.2.1 dX8_way_17 rfl (lv_at hl 1 rfl) ?_
      refine lv_iload_n X.1 X.2.1 dX8_way_18 rfl (lv_at hl 2 rfl) ?_
      obtain ⟨m4, r3, hr3, h⟩ := bw_some h
      refine r_cVv (As := [.int a1, .int a2]) (rest := []) X w lyC_0 rfl (kX8_trace (cap := cap) l D ca ad mem a1 a2  hr3) (gTV tw_656 tw_658 tw_14 tw_65 tw_659) hdX8_trace (by decide) rfl hl.1 rfl (Nat.le_of_ble_eq_true rfl) dX8_way_19 ⟨Nat.zero_le _, Nat.zero_le _⟩ (fun H locs w => ?_)
      refine lv_iload_n X.1 X.2.1 dX8_way_22 rfl (lv_at hl 3 rfl) ?_
      refine lv_if_ne (tgt := 58) X.1 X.2.1 dX8_way_23 (by decide) (fun c5 => ?_) (fun c5 => ?_)
      · rw [if_neg c5] at h
        refine lv_aload_n X.1 X.2.1 dX8_way_58 rfl (lv_at hl 0 rfl) ?_
        refine r_getr (b2 := 34) X w lyC_0 rfl inT8 7 rfl rfl (by decide) rfl tw_319 dX8_way_59 ?_
        refine r_get X w lyC_34 rfl inT7 2 rfl (by decide) rfl tw_241 dX8_way_62 ?_
        refine lv_if_eq (tgt := 70) X.1 X.2.1 dX8_way_65 (by decide) (fun c6 => ?_) (fun c6 => ?_)
        · rw [if_pos c6] at h
          refine lv_iload_n X.1 X.2.1 dX8_way_70 rfl (lv_at hl 3 rfl) ?_
          by_cases c7 : a3 = (1 : Int32)
          · rw [if_pos c7] at h
            refine lv_tableIn (tgt := 96) X.1 X.2.1 dX8_way_71 (by rw [c7]; decide) (by rw [c7]; decide) (by rw [c7]; rfl) (by decide) ?_
            refine lv_aload_n X.1 X.2.1 dX8_way_96 rfl (lv_at hl 0 rfl) ?_
            refine r_getr (b2 := 34) X w lyC_0 rfl inT8 7 rfl rfl (by decide) rfl tw_319 dX8_way_97 ?_
            refine r_get X w lyC_34 rfl inT7 3 rfl (by decide) rfl tw_243 dX8_way_100 ?_
            obtain ⟨rfl, rfl⟩ := Prod.mk.inj (Option.some.inj h)
            exact r_iret X M w dX8_way_103
          rw [if_neg c7] at h
          by_cases c8 : a3 = (2 : Int32)
          · rw [if_pos c8] at h
            refine lv_tableIn (tgt := 104) X.1 X.2.1 dX8_way_71 (by rw [c8]; decide) (by rw [c8]; decide) (by rw [c8]; rfl) (by decide) ?_
            refine lv_aload_n X.1 X.2.1 dX8_way_104 rfl (lv_at hl 0 rfl) ?_
            refine r_getr (b2 := 34) X w lyC_0 rfl inT8 7 rfl rfl (by decide) rfl tw_319 dX8_way_105 ?_
            refine r_get X w lyC_34 rfl inT7 5 rfl (by decide) rfl tw_247 dX8_way_108 ?_
            obtain ⟨rfl, rfl⟩ := Prod.mk.inj (Option.some.inj h)
            exact r_iret X M w dX8_way_111
          rw [if_neg c8] at h
          by_cases c9 : a3 = (3 : Int32)
          · rw [if_pos c9] at h
            refine lv_tableIn (tgt := 112) X.1 X.2.1 dX8_way_71 (by rw [c9]; decide) (by rw [c9]; decide) (by rw [c9]; rfl) (by decide) ?_
            refine lv_aload_n X.1 X.2.1 dX8_way_112 rfl (lv_at hl 0 rfl) ?_
            refine r_getr (b2 := 2) X w lyC_0 rfl inT8 1 rfl rfl (by decide) rfl tw_313 dX8_way_113 ?_
            refine lv_aload_n X.1 X.2.1 dX8_way_116 rfl (lv_at hl 0 rfl) ?_
            refine r_getr (b2 := 34) X w lyC_0 rfl inT8 7 rfl rfl (by decide) rfl tw_319 dX8_way_117 ?_
            refine r_getr (b2 := 35) X w lyC_34 rfl inT7 0 rfl rfl (by decide) rfl tw_237 dX8_way_120 ?_
            refine lv_aload_n X.1 X.2.1 dX8_way_123 rfl (lv_at hl 0 rfl) ?_
            refine r_getr (b2 := 34) X w lyC_0 rfl inT8 7 rfl rfl (by decide) rfl tw_319 dX8_way_124 ?_
            refine r_get X w lyC_34 rfl inT7 3 rfl (by decide) rfl tw_243 dX8_way_127 ?_
            obtain ⟨hi10, h⟩ := gd_some h
            refine r_iald X w lyC_35 hi10 dX8_way_130 ?_
            obtain ⟨hi11, h⟩ := gd_some h
            refine r_iald X w lyC_2 hi11 dX8_way_131 ?_
            obtain ⟨rfl, rfl⟩ := Prod.mk.inj (Option.some.inj h)
            exact r_iret X M w dX8_way_132
          rw [if_neg c9] at h
          refine lv_tableOut (tgt := 133) X.1 X.2.1 dX8_way_71 (sw_out 1 3 [(1 : Int32), (2 : Int32), (3 : Int32)] (fun z h1 h2 => by rcases (show z = 1 ∨ z = 2 ∨ z = 3 by omega) with rfl | rfl | rfl <;> decide) (by simp only [List.mem_cons, List.not_mem_nil, or_false, forall_eq_or_imp, forall_eq]; exact ⟨c7, c8, c9⟩)) (by decide) ?_
          refine lv_iconst (v := (-1 : Int32)) X.1 X.2.1 dX8_way_133 (by decide) ?_
          obtain ⟨rfl, rfl⟩ := Prod.mk.inj (Option.some.inj h)
          exact r_iret X M w dX8_way_134
        · rw [if_neg c6] at h
          refine lv_iconst (v := (-1 : Int32)) X.1 X.2.1 dX8_way_68 (by decide) ?_
          obtain ⟨rfl, rfl⟩ := Prod.mk.inj (Option.some.inj h)
          exact r_iret X M w dX8_way_69
      · rw [if_pos c5] at h
        refine lv_aload_n X.1 X.2.1 dX8_way_26 rfl (lv_at hl 0 rfl) ?_
        refine r_getr (b2 := 34) X w lyC_0 rfl inT8 7 rfl rfl (by decide) rfl tw_319 dX8_way_27 ?_
        refine r_get X w lyC_34 rfl inT7 2 rfl (by decide) rfl tw_241 dX8_way_30 ?_
        refine lv_if_ne (tgt := 47) X.1 X.2.1 dX8_way_33 (by decide) (fun c12 => ?_) (fun c12 => ?_)
        · rw [if_neg c12] at h
          refine lv_bipush (v := (-2 : Int32)) X.1 X.2.1 dX8_way_47 (by decide) ?_
          refine lv_aload_n X.1 X.2.1 dX8_way_49 rfl (lv_at hl 0 rfl) ?_
          refine r_getr (b2 := 34) X w lyC_0 rfl inT8 7 rfl rfl (by decide) rfl tw_319 dX8_way_50 ?_
          refine r_get X w lyC_34 rfl inT7 2 rfl (by decide) rfl tw_241 dX8_way_53 ?_
          refine lv_isub X.1 X.2.1 dX8_way_56 ?_
          obtain ⟨rfl, rfl⟩ := Prod.mk.inj (Option.some.inj h)
          exact r_iret X M w dX8_way_57
        · rw [if_pos c12] at h
          refine lv_aload_n X.1 X.2.1 dX8_way_36 rfl (lv_at hl 0 rfl) ?_
          refine r_getr (b2 := 34) X w lyC_0 rfl inT8 7 rfl rfl (by decide) rfl tw_319 dX8_way_37 ?_
          refine lv_iload_n X.1 X.2.1 dX8_way_40 rfl (lv_at hl 2 rfl) ?_
          obtain ⟨r13, hr13, h⟩ := bd_some h
          refine r_cVi (As := [.int a2]) (rest := []) X w lyC_34 rfl (kX7_frameAt (cap := cap) l D ca ad m4 a2  hr13) (gTV tw_669 tw_670 tw_671 tw_71 tw_672) hdX7_frameAt (by decide) rfl hl.1 rfl (Nat.le_of_ble_eq_true rfl) dX8_way_41 ⟨Nat.zero_le _, Nat.zero_le _⟩ (fun H locs w => ?_)
          refine lv_goto (tgt := 57) X.1 X.2.1 dX8_way_44 (by decide) ?_
          obtain ⟨rfl, rfl⟩ := Prod.mk.inj (Option.some.inj h)
          exact r_iret X M w dX8_way_57
    · rw [if_pos c2] at h
      refine lv_iconst (v := (-1 : Int32)) X.1 X.2.1 dX8_way_14 (by decide) ?_
      obtain ⟨rfl, rfl⟩ := Prod.mk.inj (Option.some.inj h)
      exact r_iret X M w dX8_way_15
/-! WalkHouse.of(III)I (R) -/
theorem hdX8_of : yX8_of.cls = RX8 ∧ yX8_of.cls ≠ "java/lang/invoke/MethodHandle" ∧ yX8_of.cls ≠ "java/lang/invoke/VarHandle" ∧ (parseMethodDescriptor yX8_of.desc).map (fun d => d.parameters.length) = some 3 := by decide +kernel
def fX8_of (mem : Mm) (a1 : Int32) (a2 : Int32) (a3 : Int32) : Option Int32 :=
  if (fX8_isCell a1 a2) = 0 then some (-1 : Int32) else lk (fX8_cellOf a1 a2) (fun x_2 => gd x_2 96 (lk (mem 1 x_2.toNatClampNeg) (fun x_4 => if a3 = 0 then some (fX8_kindOf x_4) else if (fX8_kindOf x_4) = 0 then some (-1 : Int32) else if a3 = (1 : Int32) then some (fX8_targetOf x_4) else if a3 = (2 : Int32) then some (fX8_rightsOf x_4) else if a3 = (3 : Int32) then gd x_2 96 (some (mem 2 x_2.toNatClampNeg)) else some (-1 : Int32))))
set_option maxRecDepth 100000 in
set_option maxHeartbeats 4000000 in
theorem kX8_of {cap : Nat} (l : Launch) (D : va_G) (ca : Nat → ClassId) (ad : Nat → Nat) (mem : Mm) (a1 : Int32) (a2 : Int32) (a3 : Int32)  {r : Int32} (h : fX8_of mem a1 a2 a3 = some r) : CtI l yX8_of cX8_of 6 (some .int) (rmx 1 21) D ca ad (layC cap) mem [.ref (ad 0), .int a1, .int a2, .int a3] mem r := by
  refine CtI.of (by decide) (Nat.le_of_ble_eq_true rfl) ?_
  intro p e s m args below meth c H locs ls X M w hl
  replace X : CallFix p m c cX8_of 6 s args TT RX8 := X
  replace hl : lv_has ls 6 [(0, .ref (ad 0)), (1, .int a1), (2, .int a2), (3, .int a3)] := hl
  unfold fX8_of at h
  refine lv_iload_n X.1 X.2.1 dX8_of_0 rfl (lv_at hl 1 rfl) ?_
  refine lv_iload_n X.1 X.2.1 dX8_of_1 rfl (lv_at hl 2 rfl) ?_
  refine r_cSi (As := [.int a1, .int a2]) (rest := []) X w (kX8_isCell (cap := cap) l D ca ad mem a1 a2  rfl) (gTS tw_365 tw_366 tw_65 tw_367) hdX8_isCell (by decide) rfl hl.1 rfl (Nat.le_of_ble_eq_true rfl) dX8_of_2 ⟨Nat.zero_le _, Nat.zero_le _⟩ (fun H locs w => ?_)
  refine lv_if_ne (tgt := 10) X.1 X.2.1 dX8_of_5 (by decide) (fun c1 => ?_) (fun c1 => ?_)
  · rw [if_neg c1] at h
    refine lv_iload_n X.1 X.2.1 dX8_of_10 rfl (lv_at hl 1 rfl) ?_
    refine lv_iload_n X.1 X.2.1 dX8_of_11 rfl (lv_at hl 2 rfl) ?_
    refine r_cSi (As := [.int a1, .int a2]) (rest := []) X w (kX8_cellOf (cap := cap) l D ca ad mem a1 a2  rfl) (gTS tw_371 tw_372 tw_65 tw_373) hdX8_cellOf (by decide) rfl hl.1 rfl (Nat.le_of_ble_eq_true rfl) dX8_of_12 ⟨Nat.zero_le _, Nat.zero_le _⟩ (fun H locs w => ?_)
    obtain ⟨x_2, ex_2, h⟩ := lk_some h
    refine lv_name ex_2 ?_
    refine lv_istore (lv' := [(4, .int x_2), (0, .ref (ad 0)), (1, .int a1), (2, .int a2), (3, .int a3)]) X.1 X.2.1 dX8_of_15 hl (by decide) rfl (fun ls hl => ?_)
    refine lv_aload_n X.1 X.2.1 dX8_of_17 rfl (lv_at hl 1 rfl) ?_
    refine r_getr (b2 := 1) X w lyC_0 rfl inT8 0 rfl rfl (by decide) rfl tw_312 dX8_of_18 ?_
    refine lv_iload X.1 X.2.1 dX8_of_21 (lv_at hl 0 rfl) ?_
    obtain ⟨hi3, h⟩ := gd_some h
    refine r_iald X w lyC_1 hi3 dX8_of_23 ?_
    obtain ⟨x_4, ex_4, h⟩ := lk_some h
    refine lv_name ex_4 ?_
    refine lv_istore (lv' := [(5, .int x_4), (4, .int x_2), (0, .ref (ad 0)), (1, .int a1), (2, .int a2), (3, .int a3)]) X.1 X.2.1 dX8_of_24 hl (by decide) rfl (fun ls hl => ?_)
    refine lv_iload_n X.1 X.2.1 dX8_of_26 rfl (lv_at hl 5 rfl) ?_
    refine lv_if_ne (tgt := 36) X.1 X.2.1 dX8_of_27 (by decide) (fun c5 => ?_) (fun c5 => ?_)
    · rw [if_neg c5] at h
      refine lv_iload X.1 X.2.1 dX8_of_36 (lv_at hl 0 rfl) ?_
      refine r_cSi (As := [.int x_4]) (rest := []) X w (kX8_kindOf (cap := cap) l D ca ad mem x_4  rfl) (gTS tw_381 tw_382 tw_65 tw_383) hdX8_kindOf (by decide) rfl hl.1 rfl (Nat.le_of_ble_eq_true rfl) dX8_of_38 ⟨Nat.zero_le _, Nat.zero_le _⟩ (fun H locs w => ?_)
      refine lv_if_ne (tgt := 46) X.1 X.2.1 dX8_of_41 (by decide) (fun c6 => ?_) (fun c6 => ?_)
      · rw [if_neg c6] at h
        refine lv_iload_n X.1 X.2.1 dX8_of_46 rfl (lv_at hl 5 rfl) ?_
        by_cases c7 : a3 = (1 : Int32)
        · rw [if_pos c7] at h
          refine lv_tableIn (tgt := 72) X.1 X.2.1 dX8_of_47 (by rw [c7]; decide) (by rw [c7]; decide) (by rw [c7]; rfl) (by decide) ?_
          refine lv_iload X.1 X.2.1 dX8_of_72 (lv_at hl 0 rfl) ?_
          refine r_cSi (As := [.int x_4]) (rest := []) X w (kX8_targetOf (cap := cap) l D ca ad mem x_4  rfl) (gTS tw_565 tw_566 tw_65 tw_567) hdX8_targetOf (by decide) rfl hl.1 rfl (Nat.le_of_ble_eq_true rfl) dX8_of_74 ⟨Nat.zero_le _, Nat.zero_le _⟩ (fun H locs w => ?_)
          obtain rfl := Option.some.inj h
          exact r_iret X M w dX8_of_77
        rw [if_neg c7] at h
        by_cases c8 : a3 = (2 : Int32)
        · rw [if_pos c8] at h
          refine lv_tableIn (tgt := 78) X.1 X.2.1 dX8_of_47 (by rw [c8]; decide) (by rw [c8]; decide) (by rw [c8]; rfl) (by decide) ?_
          refine lv_iload X.1 X.2.1 dX8_of_78 (lv_at hl 0 rfl) ?_
          refine r_cSi (As := [.int x_4]) (rest := []) X w (kX8_rightsOf (cap := cap) l D ca ad mem x_4  rfl) (gTS tw_537 tw_538 tw_65 tw_539) hdX8_rightsOf (by decide) rfl hl.1 rfl (Nat.le_of_ble_eq_true rfl) dX8_of_80 ⟨Nat.zero_le _, Nat.zero_le _⟩ (fun H locs w => ?_)
          obtain rfl := Option.some.inj h
          exact r_iret X M w dX8_of_83
        rw [if_neg c8] at h
        by_cases c9 : a3 = (3 : Int32)
        · rw [if_pos c9] at h
          refine lv_tableIn (tgt := 84) X.1 X.2.1 dX8_of_47 (by rw [c9]; decide) (by rw [c9]; decide) (by rw [c9]; rfl) (by decide) ?_
          refine lv_aload_n X.1 X.2.1 dX8_of_84 rfl (lv_at hl 2 rfl) ?_
          refine r_getr (b2 := 2) X w lyC_0 rfl inT8 1 rfl rfl (by decide) rfl tw_313 dX8_of_85 ?_
          refine lv_iload X.1 X.2.1 dX8_of_88 (lv_at hl 1 rfl) ?_
          obtain ⟨hi10, h⟩ := gd_some h
          refine r_iald X w lyC_2 hi10 dX8_of_90 ?_
          obtain rfl := Option.some.inj h
          exact r_iret X M w dX8_of_91
        rw [if_neg c9] at h
        refine lv_tableOut (tgt := 92) X.1 X.2.1 dX8_of_47 (sw_out 1 3 [(1 : Int32), (2 : Int32), (3 : Int32)] (fun z h1 h2 => by rcases (show z = 1 ∨ z = 2 ∨ z = 3 by omega) with rfl | rfl | rfl <;> decide) (by simp only [List.mem_cons, List.not_mem_nil, or_false, forall_eq_or_imp, forall_eq]; exact ⟨c7, c8, c9⟩)) (by decide) ?_
        refine lv_iconst (v := (-1 : Int32)) X.1 X.2.1 dX8_of_92 (by decide) ?_
        obtain rfl := Option.some.inj h
        exact r_iret X M w dX8_of_93
      · rw [if_pos c6] at h
        refine lv_iconst (v := (-1 : Int32)) X.1 X.2.1 dX8_of_44 (by decide) ?_
        obtain rfl := Option.some.inj h
        exact r_iret X M w dX8_of_45
    · rw [if_pos c5] at h
      refine lv_iload X.1 X.2.1 dX8_of_30 (lv_at hl 0 rfl) ?_
      refine r_cSi (As := [.int x_4]) (rest := []) X w (kX8_kindOf (cap := cap) l D ca ad mem x_4  rfl) (gTS tw_381 tw_382 tw_65 tw_383) hdX8_kindOf (by decide) rfl hl.1 rfl (Nat.le_of_ble_eq_true rfl) dX8_of_32 ⟨Nat.zero_le _, Nat.zero_le _⟩ (fun H locs w => ?_)
      obtain rfl := Option.some.inj h
      exact r_iret X M w dX8_of_35
  · rw [if_pos c1] at h
    refine lv_iconst (v := (-1 : Int32)) X.1 X.2.1 dX8_of_8 (by decide) ?_
    obtain rfl := Option.some.inj h
    exact r_iret X M w dX8_of_9
/-! WalkHouse.isStalePage(LWalkHouse$Place;)Z (W) -/
theorem hdX8_isStalePage : yX8_isStalePage.cls = RX8 ∧ yX8_isStalePage.cls ≠ "java/lang/invoke/MethodHandle" ∧ yX8_isStalePage.cls ≠ "java/lang/invoke/VarHandle" ∧ (parseMethodDescriptor yX8_isStalePage.desc).map (fun d => d.parameters.length) = some 1 := by decide +kernel
def fX8_isStalePage (mem : Mm) (a1 : Nat) : Option (Mm × Int32) :=
  bd (fX4_holderOf mem (mem a1 1)) (fun r1 => if r1 = (-1 : Int32) then some (mem, (1 : Int32)) else bw (fX8_trace mem r1 (mem a1 3)) (fun m4 r3 => if (m4 34 2) = 0 then if (m4 34 3) = (m4 a1 2) then if (m4 34 4) = (m4 a1 4) then if (m4 34 5) = (m4 a1 5) then some (m4, (0 : Int32)) else some (m4, (1 : Int32)) else some (m4, (1 : Int32)) else some (m4, (1 : Int32)) else some (m4, (1 : Int32))))
set_option maxRecDepth 100000 in
set_option maxHeartbeats 4000000 in
theorem kX8_isStalePage {cap : Nat} (l : Launch) (D : va_G) (ca : Nat → ClassId) (ad : Nat → Nat) (mem : Mm) (a1 : Nat) (h1 : isPl a1) {mem' : Mm} {r : Int32} (h : fX8_isStalePage mem a1 = some (mem', r)) : CtI l yX8_isStalePage cX8_isStalePage 3 (some .boolean) (rmx 3 70) D ca ad (layC cap) mem [.ref (ad 0), .ref (ad a1)] mem' r := by
  refine CtI.of (by decide) (Nat.le_of_ble_eq_true rfl) ?_
  intro p e s m args below meth c H locs ls X M w hl
  replace X : CallFix p m c cX8_isStalePage 3 s args TT RX8 := X
  replace hl : lv_has ls 3 [(0, .ref (ad 0)), (1, .ref (ad a1))] := hl
  unfold fX8_isStalePage at h
  refine lv_aload_n X.1 X.2.1 dX8_isStalePage_0 rfl (lv_at hl 0 rfl) ?_
  refine r_getr (b2 := 3) X w lyC_0 rfl inT8 2 rfl rfl (by decide) rfl tw_314 dX8_isStalePage_1 ?_
  refine lv_aload_n X.1 X.2.1 dX8_isStalePage_4 rfl (lv_at hl 1 rfl) ?_
  refine r_get X w (lyPl h1) rfl inT3 1 rfl (by decide) rfl tw_138 dX8_isStalePage_5 ?_
  obtain ⟨r1, hr1, h⟩ := bd_some h
  refine r_cVi (As := [.int (mem a1 1)]) (rest := []) X w lyC_3 rfl (kX4_holderOf (cap := cap) l D ca ad mem (mem a1 1)  hr1) (gTV tw_786 tw_411 tw_412 tw_66 tw_413) hdX4_holderOf (by decide) rfl hl.1 rfl (Nat.le_of_ble_eq_true rfl) dX8_isStalePage_8 ⟨Nat.zero_le _, Nat.zero_le _⟩ (fun H locs w => ?_)
  refine lv_istore_n (lv' := [(2, .int r1), (0, .ref (ad 0)), (1, .ref (ad a1))]) X.1 X.2.1 dX8_isStalePage_11 rfl hl (by decide) rfl (fun ls hl => ?_)
  refine lv_iload_n X.1 X.2.1 dX8_isStalePage_12 rfl (lv_at hl 0 rfl) ?_
  refine lv_iconst (v := (-1 : Int32)) X.1 X.2.1 dX8_isStalePage_13 (by decide) ?_
  refine lv_icmp_ne (tgt := 19) X.1 X.2.1 dX8_isStalePage_14 (by decide) (fun c2 => ?_) (fun c2 => ?_)
  · rw [if_neg c2] at h
    refine lv_aload_n X.1 X.2.1 dX8_isStalePage_19 rfl (lv_at hl 1 rfl) ?_
    refine lv_iload_n X.1 X.2.1 dX8_isStalePage_20 rfl (lv_at hl 0 rfl) ?_
    refine lv_aload_n X.1 X.2.1 dX8_isStalePage_21 rfl (lv_at hl 2 rfl) ?_
    refine r_get X w (lyPl h1) rfl inT3 3 rfl (by decide) rfl tw_144 dX8_isStalePage_22 ?_
    obtain ⟨m4, r3, hr3, h⟩ := bw_some h
    refine r_cVv (As := [.int r1, .int (mem a1 3)]) (rest := []) X w lyC_0 rfl (kX8_trace (cap := cap) l D ca ad mem r1 (mem a1 3)  hr3) (gTV tw_656 tw_658 tw_14 tw_65 tw_659) hdX8_trace (by decide) rfl hl.1 rfl (Nat.le_of_ble_eq_true rfl) dX8_isStalePage_25 ⟨Nat.zero_le _, Nat.zero_le _⟩ (fun H locs w => ?_)
    refine lv_aload_n X.1 X.2.1 dX8_isStalePage_28 rfl (lv_at hl 1 rfl) ?_
    refine r_getr (b2 := 34) X w lyC_0 rfl inT8 7 rfl rfl (by decide) rfl tw_319 dX8_isStalePage_29 ?_
    refine r_get X w lyC_34 rfl inT7 2 rfl (by decide) rfl tw_241 dX8_isStalePage_32 ?_
    refine lv_if_ne (tgt := 80) X.1 X.2.1 dX8_isStalePage_35 (by decide) (fun c5 => ?_) (fun c5 => ?_)
    · rw [if_neg c5] at h
      refine lv_iconst (v := (1 : Int32)) X.1 X.2.1 dX8_isStalePage_80 (by decide) ?_
      refine lv_goto (tgt := 85) X.1 X.2.1 dX8_isStalePage_81 (by decide) ?_
      obtain ⟨rfl, rfl⟩ := Prod.mk.inj (Option.some.inj h)
      exact r_zret X M w (by decide) dX8_isStalePage_85
    · rw [if_pos c5] at h
      refine lv_aload_n X.1 X.2.1 dX8_isStalePage_38 rfl (lv_at hl 1 rfl) ?_
      refine r_getr (b2 := 34) X w lyC_0 rfl inT8 7 rfl rfl (by decide) rfl tw_319 dX8_isStalePage_39 ?_
      refine r_get X w lyC_34 rfl inT7 3 rfl (by decide) rfl tw_243 dX8_isStalePage_42 ?_
      refine lv_aload_n X.1 X.2.1 dX8_isStalePage_45 rfl (lv_at hl 2 rfl) ?_
      refine r_get X w (lyPl h1) rfl inT3 2 rfl (by decide) rfl tw_141 dX8_isStalePage_46 ?_
      refine lv_icmp_ne (tgt := 80) X.1 X.2.1 dX8_isStalePage_49 (by decide) (fun c6 => ?_) (fun c6 => ?_)
      · rw [if_neg c6] at h
        refine lv_iconst (v := (1 : Int32)) X.1 X.2.1 dX8_isStalePage_80 (by decide) ?_
        refine lv_goto (tgt := 85) X.1 X.2.1 dX8_isStalePage_81 (by decide) ?_
        obtain ⟨rfl, rfl⟩ := Prod.mk.inj (Option.some.inj h)
        exact r_zret X M w (by decide) dX8_isStalePage_85
      · rw [if_pos c6] at h
        refine lv_aload_n X.1 X.2.1 dX8_isStalePage_52 rfl (lv_at hl 1 rfl) ?_
        refine r_getr (b2 := 34) X w lyC_0 rfl inT8 7 rfl rfl (by decide) rfl tw_319 dX8_isStalePage_53 ?_
        refine r_get X w lyC_34 rfl inT7 4 rfl (by decide) rfl tw_245 dX8_isStalePage_56 ?_
        refine lv_aload_n X.1 X.2.1 dX8_isStalePage_59 rfl (lv_at hl 2 rfl) ?_
        refine r_get X w (lyPl h1) rfl inT3 4 rfl (by decide) rfl tw_146 dX8_isStalePage_60 ?_
        refine lv_icmp_ne (tgt := 80) X.1 X.2.1 dX8_isStalePage_63 (by decide) (fun c7 => ?_) (fun c7 => ?_)
        · rw [if_neg c7] at h
          refine lv_iconst (v := (1 : Int32)) X.1 X.2.1 dX8_isStalePage_80 (by decide) ?_
          refine lv_goto (tgt := 85) X.1 X.2.1 dX8_isStalePage_81 (by decide) ?_
          obtain ⟨rfl, rfl⟩ := Prod.mk.inj (Option.some.inj h)
          exact r_zret X M w (by decide) dX8_isStalePage_85
        · rw [if_pos c7] at h
          refine lv_aload_n X.1 X.2.1 dX8_isStalePage_66 rfl (lv_at hl 1 rfl) ?_
          refine r_getr (b2 := 34) X w lyC_0 rfl inT8 7 rfl rfl (by decide) rfl tw_319 dX8_isStalePage_67 ?_
          refine r_get X w lyC_34 rfl inT7 5 rfl (by decide) rfl tw_247 dX8_isStalePage_70 ?_
          refine lv_aload_n X.1 X.2.1 dX8_isStalePage_73 rfl (lv_at hl 2 rfl) ?_
          refine r_get X w (lyPl h1) rfl inT3 5 rfl (by decide) rfl tw_148 dX8_isStalePage_74 ?_
          refine lv_icmp_eq (tgt := 84) X.1 X.2.1 dX8_isStalePage_77 (by decide) (fun c8 => ?_) (fun c8 => ?_)
          · rw [if_pos c8] at h
            refine lv_iconst (v := (0 : Int32)) X.1 X.2.1 dX8_isStalePage_84 (by decide) ?_
            obtain ⟨rfl, rfl⟩ := Prod.mk.inj (Option.some.inj h)
            exact r_zret X M w (by decide) dX8_isStalePage_85
          · rw [if_neg c8] at h
            refine lv_iconst (v := (1 : Int32)) X.1 X.2.1 dX8_isStalePage_80 (by decide) ?_
            refine lv_goto (tgt := 85) X.1 X.2.1 dX8_isStalePage_81 (by decide) ?_
            obtain ⟨rfl, rfl⟩ := Prod.mk.inj (Option.some.inj h)
            exact r_zret X M w (by decide) dX8_isStalePage_85
  · rw [if_pos c2] at h
    refine lv_iconst (v := (1 : Int32)) X.1 X.2.1 dX8_isStalePage_17 (by decide) ?_
    obtain ⟨rfl, rfl⟩ := Prod.mk.inj (Option.some.inj h)
    exact r_zret X M w (by decide) dX8_isStalePage_18
/-! WalkHouse.isStaleUpper(LWalkHouse$Place;)Z (W) -/
theorem hdX8_isStaleUpper : yX8_isStaleUpper.cls = RX8 ∧ yX8_isStaleUpper.cls ≠ "java/lang/invoke/MethodHandle" ∧ yX8_isStaleUpper.cls ≠ "java/lang/invoke/VarHandle" ∧ (parseMethodDescriptor yX8_isStaleUpper.desc).map (fun d => d.parameters.length) = some 1 := by decide +kernel
def fX8_isStaleUpper (mem : Mm) (a1 : Nat) : Option (Mm × Int32) :=
  bd (fX4_holderOf mem (mem a1 1)) (fun r1 => if r1 = (-1 : Int32) then some (mem, (1 : Int32)) else bw (fX8_trace mem r1 (mem a1 3)) (fun m4 r3 => gd (m4 a1 2) 3 (lk (m4 35 (m4 a1 2).toNatClampNeg) (fun x_6 => if x_6 = (-1 : Int32) then some (m4, (1 : Int32)) else gd (m4 a1 2) 3 (if (m4 36 (m4 a1 2).toNatClampNeg) = (m4 a1 5) then gd x_6 96 (if (fX8_kindOf (m4 1 x_6.toNatClampNeg)) = (1 : Int32) then gd x_6 96 (if (fX8_targetOf (m4 1 x_6.toNatClampNeg)) = (m4 a1 4) then some (m4, (0 : Int32)) else some (m4, (1 : Int32))) else some (m4, (1 : Int32))) else some (m4, (1 : Int32)))))))
set_option maxRecDepth 100000 in
set_option maxHeartbeats 4000000 in
theorem kX8_isStaleUpper {cap : Nat} (l : Launch) (D : va_G) (ca : Nat → ClassId) (ad : Nat → Nat) (mem : Mm) (a1 : Nat) (h1 : isPl a1) {mem' : Mm} {r : Int32} (h : fX8_isStaleUpper mem a1 = some (mem', r)) : CtI l yX8_isStaleUpper cX8_isStaleUpper 4 (some .boolean) (rmx 3 70) D ca ad (layC cap) mem [.ref (ad 0), .ref (ad a1)] mem' r := by
  refine CtI.of (by decide) (Nat.le_of_ble_eq_true rfl) ?_
  intro p e s m args below meth c H locs ls X M w hl
  replace X : CallFix p m c cX8_isStaleUpper 4 s args TT RX8 := X
  replace hl : lv_has ls 4 [(0, .ref (ad 0)), (1, .ref (ad a1))] := hl
  unfold fX8_isStaleUpper at h
  refine lv_aload_n X.1 X.2.1 dX8_isStaleUpper_0 rfl (lv_at hl 0 rfl) ?_
  refine r_getr (b2 := 3) X w lyC_0 rfl inT8 2 rfl rfl (by decide) rfl tw_314 dX8_isStaleUpper_1 ?_
  refine lv_aload_n X.1 X.2.1 dX8_isStaleUpper_4 rfl (lv_at hl 1 rfl) ?_
  refine r_get X w (lyPl h1) rfl inT3 1 rfl (by decide) rfl tw_138 dX8_isStaleUpper_5 ?_
  obtain ⟨r1, hr1, h⟩ := bd_some h
  refine r_cVi (As := [.int (mem a1 1)]) (rest := []) X w lyC_3 rfl (kX4_holderOf (cap := cap) l D ca ad mem (mem a1 1)  hr1) (gTV tw_786 tw_411 tw_412 tw_66 tw_413) hdX4_holderOf (by decide) rfl hl.1 rfl (Nat.le_of_ble_eq_true rfl) dX8_isStaleUpper_8 ⟨Nat.zero_le _, Nat.zero_le _⟩ (fun H locs w => ?_)
  refine lv_istore_n (lv' := [(2, .int r1), (0, .ref (ad 0)), (1, .ref (ad a1))]) X.1 X.2.1 dX8_isStaleUpper_11 rfl hl (by decide) rfl (fun ls hl => ?_)
  refine lv_iload_n X.1 X.2.1 dX8_isStaleUpper_12 rfl (lv_at hl 0 rfl) ?_
  refine lv_iconst (v := (-1 : Int32)) X.1 X.2.1 dX8_isStaleUpper_13 (by decide) ?_
  refine lv_icmp_ne (tgt := 19) X.1 X.2.1 dX8_isStaleUpper_14 (by decide) (fun c2 => ?_) (fun c2 => ?_)
  · rw [if_neg c2] at h
    refine lv_aload_n X.1 X.2.1 dX8_isStaleUpper_19 rfl (lv_at hl 1 rfl) ?_
    refine lv_iload_n X.1 X.2.1 dX8_isStaleUpper_20 rfl (lv_at hl 0 rfl) ?_
    refine lv_aload_n X.1 X.2.1 dX8_isStaleUpper_21 rfl (lv_at hl 2 rfl) ?_
    refine r_get X w (lyPl h1) rfl inT3 3 rfl (by decide) rfl tw_144 dX8_isStaleUpper_22 ?_
    obtain ⟨m4, r3, hr3, h⟩ := bw_some h
    refine r_cVv (As := [.int r1, .int (mem a1 3)]) (rest := []) X w lyC_0 rfl (kX8_trace (cap := cap) l D ca ad mem r1 (mem a1 3)  hr3) (gTV tw_656 tw_658 tw_14 tw_65 tw_659) hdX8_trace (by decide) rfl hl.1 rfl (Nat.le_of_ble_eq_true rfl) dX8_isStaleUpper_25 ⟨Nat.zero_le _, Nat.zero_le _⟩ (fun H locs w => ?_)
    refine lv_aload_n X.1 X.2.1 dX8_isStaleUpper_28 rfl (lv_at hl 1 rfl) ?_
    refine r_getr (b2 := 34) X w lyC_0 rfl inT8 7 rfl rfl (by decide) rfl tw_319 dX8_isStaleUpper_29 ?_
    refine r_getr (b2 := 35) X w lyC_34 rfl inT7 0 rfl rfl (by decide) rfl tw_237 dX8_isStaleUpper_32 ?_
    refine lv_aload_n X.1 X.2.1 dX8_isStaleUpper_35 rfl (lv_at hl 2 rfl) ?_
    refine r_get X w (lyPl h1) rfl inT3 2 rfl (by decide) rfl tw_141 dX8_isStaleUpper_36 ?_
    obtain ⟨hi5, h⟩ := gd_some h
    refine r_iald X w lyC_35 hi5 dX8_isStaleUpper_39 ?_
    obtain ⟨x_6, ex_6, h⟩ := lk_some h
    refine lv_name ex_6 ?_
    refine lv_istore_n (lv' := [(3, .int x_6), (2, .int r1), (0, .ref (ad 0)), (1, .ref (ad a1))]) X.1 X.2.1 dX8_isStaleUpper_40 rfl hl (by decide) rfl (fun ls hl => ?_)
    refine lv_iload_n X.1 X.2.1 dX8_isStaleUpper_41 rfl (lv_at hl 0 rfl) ?_
    refine lv_iconst (v := (-1 : Int32)) X.1 X.2.1 dX8_isStaleUpper_42 (by decide) ?_
    refine lv_icmp_eq (tgt := 65) X.1 X.2.1 dX8_isStaleUpper_43 (by decide) (fun c7 => ?_) (fun c7 => ?_)
    · rw [if_pos c7] at h
      refine lv_iconst (v := (1 : Int32)) X.1 X.2.1 dX8_isStaleUpper_65 (by decide) ?_
      obtain ⟨rfl, rfl⟩ := Prod.mk.inj (Option.some.inj h)
      exact r_zret X M w (by decide) dX8_isStaleUpper_66
    · rw [if_neg c7] at h
      refine lv_aload_n X.1 X.2.1 dX8_isStaleUpper_46 rfl (lv_at hl 2 rfl) ?_
      refine r_getr (b2 := 34) X w lyC_0 rfl inT8 7 rfl rfl (by decide) rfl tw_319 dX8_isStaleUpper_47 ?_
      refine r_getr (b2 := 36) X w lyC_34 rfl inT7 1 rfl rfl (by decide) rfl tw_239 dX8_isStaleUpper_50 ?_
      refine lv_aload_n X.1 X.2.1 dX8_isStaleUpper_53 rfl (lv_at hl 3 rfl) ?_
      refine r_get X w (lyPl h1) rfl inT3 2 rfl (by decide) rfl tw_141 dX8_isStaleUpper_54 ?_
      obtain ⟨hi8, h⟩ := gd_some h
      refine r_iald X w lyC_36 hi8 dX8_isStaleUpper_57 ?_
      refine lv_aload_n X.1 X.2.1 dX8_isStaleUpper_58 rfl (lv_at hl 3 rfl) ?_
      refine r_get X w (lyPl h1) rfl inT3 5 rfl (by decide) rfl tw_148 dX8_isStaleUpper_59 ?_
      refine lv_icmp_eq (tgt := 67) X.1 X.2.1 dX8_isStaleUpper_62 (by decide) (fun c9 => ?_) (fun c9 => ?_)
      · rw [if_pos c9] at h
        refine lv_aload_n X.1 X.2.1 dX8_isStaleUpper_67 rfl (lv_at hl 2 rfl) ?_
        refine r_getr (b2 := 1) X w lyC_0 rfl inT8 0 rfl rfl (by decide) rfl tw_312 dX8_isStaleUpper_68 ?_
        refine lv_iload_n X.1 X.2.1 dX8_isStaleUpper_71 rfl (lv_at hl 0 rfl) ?_
        obtain ⟨hi10, h⟩ := gd_some h
        refine r_iald X w lyC_1 hi10 dX8_isStaleUpper_72 ?_
        refine r_cSi (As := [.int (m4 1 x_6.toNatClampNeg)]) (rest := []) X w (kX8_kindOf (cap := cap) l D ca ad m4 (m4 1 x_6.toNatClampNeg)  rfl) (gTS tw_381 tw_382 tw_65 tw_383) hdX8_kindOf (by decide) rfl hl.1 rfl (Nat.le_of_ble_eq_true rfl) dX8_isStaleUpper_73 ⟨Nat.zero_le _, Nat.zero_le _⟩ (fun H locs w => ?_)
        refine lv_iconst (v := (1 : Int32)) X.1 X.2.1 dX8_isStaleUpper_76 (by decide) ?_
        refine lv_icmp_ne (tgt := 96) X.1 X.2.1 dX8_isStaleUpper_77 (by decide) (fun c11 => ?_) (fun c11 => ?_)
        · rw [if_neg c11] at h
          refine lv_iconst (v := (1 : Int32)) X.1 X.2.1 dX8_isStaleUpper_96 (by decide) ?_
          refine lv_goto (tgt := 101) X.1 X.2.1 dX8_isStaleUpper_97 (by decide) ?_
          obtain ⟨rfl, rfl⟩ := Prod.mk.inj (Option.some.inj h)
          exact r_zret X M w (by decide) dX8_isStaleUpper_101
        · rw [if_pos c11] at h
          refine lv_aload_n X.1 X.2.1 dX8_isStaleUpper_80 rfl (lv_at hl 2 rfl) ?_
          refine r_getr (b2 := 1) X w lyC_0 rfl inT8 0 rfl rfl (by decide) rfl tw_312 dX8_isStaleUpper_81 ?_
          refine lv_iload_n X.1 X.2.1 dX8_isStaleUpper_84 rfl (lv_at hl 0 rfl) ?_
          obtain ⟨hi12, h⟩ := gd_some h
          refine r_iald X w lyC_1 hi12 dX8_isStaleUpper_85 ?_
          refine r_cSi (As := [.int (m4 1 x_6.toNatClampNeg)]) (rest := []) X w (kX8_targetOf (cap := cap) l D ca ad m4 (m4 1 x_6.toNatClampNeg)  rfl) (gTS tw_565 tw_566 tw_65 tw_567) hdX8_targetOf (by decide) rfl hl.1 rfl (Nat.le_of_ble_eq_true rfl) dX8_isStaleUpper_86 ⟨Nat.zero_le _, Nat.zero_le _⟩ (fun H locs w => ?_)
          refine lv_aload_n X.1 X.2.1 dX8_isStaleUpper_89 rfl (lv_at hl 3 rfl) ?_
          refine r_get X w (lyPl h1) rfl inT3 4 rfl (by decide) rfl tw_146 dX8_isStaleUpper_90 ?_
          refine lv_icmp_eq (tgt := 100) X.1 X.2.1 dX8_isStaleUpper_93 (by decide) (fun c13 => ?_) (fun c13 => ?_)
          · rw [if_pos c13] at h
            refine lv_iconst (v := (0 : Int32)) X.1 X.2.1 dX8_isStaleUpper_100 (by decide) ?_
            obtain ⟨rfl, rfl⟩ := Prod.mk.inj (Option.some.inj h)
            exact r_zret X M w (by decide) dX8_isStaleUpper_101
          · rw [if_neg c13] at h
            refine lv_iconst (v := (1 : Int32)) X.1 X.2.1 dX8_isStaleUpper_96 (by decide) ?_
            refine lv_goto (tgt := 101) X.1 X.2.1 dX8_isStaleUpper_97 (by decide) ?_
            obtain ⟨rfl, rfl⟩ := Prod.mk.inj (Option.some.inj h)
            exact r_zret X M w (by decide) dX8_isStaleUpper_101
      · rw [if_neg c9] at h
        refine lv_iconst (v := (1 : Int32)) X.1 X.2.1 dX8_isStaleUpper_65 (by decide) ?_
        obtain ⟨rfl, rfl⟩ := Prod.mk.inj (Option.some.inj h)
        exact r_zret X M w (by decide) dX8_isStaleUpper_66
  · rw [if_pos c2] at h
    refine lv_iconst (v := (1 : Int32)) X.1 X.2.1 dX8_isStaleUpper_17 (by decide) ?_
    obtain ⟨rfl, rfl⟩ := Prod.mk.inj (Option.some.inj h)
    exact r_zret X M w (by decide) dX8_isStaleUpper_18
/-! WalkHouse.bitOf(I)I (T) -/
theorem hdX8_bitOf : yX8_bitOf.cls ≠ "java/lang/invoke/MethodHandle" ∧ yX8_bitOf.cls ≠ "java/lang/invoke/VarHandle" ∧ (parseMethodDescriptor yX8_bitOf.desc).map (fun d => d.parameters.length) = some 1 := by decide +kernel
def fX8_bitOf (a0 : Int32) : Int32 :=
  if a0 = (-1 : Int32) then (0 : Int32) else ((1 : Int32) <<< (a0 &&& 31))
set_option maxRecDepth 100000 in
set_option maxHeartbeats 4000000 in
theorem kX8_bitOf {cap : Nat} (l : Launch) (D : va_G) (ca : Nat → ClassId) (ad : Nat → Nat) (mem : Mm) (a0 : Int32)  {r : Int32} (h : fX8_bitOf a0 = r) : CtI l yX8_bitOf cX8_bitOf 1 (some .int) (rmx 0 0) D ca ad (layC cap) mem [.int a0] mem r := by
  refine CtI.of (by decide) (Nat.le_of_ble_eq_true rfl) ?_
  intro p e s m args below meth c H locs ls X M w hl
  replace X : CallFix p m c cX8_bitOf 1 s args TT RX8 := X
  replace hl : lv_has ls 1 [(0, .int a0)] := hl
  unfold fX8_bitOf at h
  refine lv_iload_n X.1 X.2.1 dX8_bitOf_0 rfl (lv_at hl 0 rfl) ?_
  refine lv_iconst (v := (-1 : Int32)) X.1 X.2.1 dX8_bitOf_1 (by decide) ?_
  refine lv_icmp_ne (tgt := 9) X.1 X.2.1 dX8_bitOf_2 (by decide) (fun c1 => ?_) (fun c1 => ?_)
  · rw [if_neg c1] at h
    refine lv_iconst (v := (1 : Int32)) X.1 X.2.1 dX8_bitOf_9 (by decide) ?_
    refine lv_iload_n X.1 X.2.1 dX8_bitOf_10 rfl (lv_at hl 0 rfl) ?_
    refine lv_ishl X.1 X.2.1 dX8_bitOf_11 ?_
    subst h
    exact r_iret X M w dX8_bitOf_12
  · rw [if_pos c1] at h
    refine lv_iconst (v := (0 : Int32)) X.1 X.2.1 dX8_bitOf_5 (by decide) ?_
    refine lv_goto (tgt := 12) X.1 X.2.1 dX8_bitOf_6 (by decide) ?_
    subst h
    exact r_iret X M w dX8_bitOf_12
/-! WalkHouse.rootsSince(II)I (R) -/
theorem hdX8_rootsSince : yX8_rootsSince.cls = RX8 ∧ yX8_rootsSince.cls ≠ "java/lang/invoke/MethodHandle" ∧ yX8_rootsSince.cls ≠ "java/lang/invoke/VarHandle" ∧ (parseMethodDescriptor yX8_rootsSince.desc).map (fun d => d.parameters.length) = some 2 := by decide +kernel
def fX8_rootsSince_b23_s  (k23 : Mm → Int32 → Int32 → Int32 → Option Int32) (mem : Mm) (x1 : Int32) (x3 : Int32) (x4 : Int32) : Option Int32 :=
  if (mem 37 2) ≤ x4 then some x3 else bd (fX0_keyAt mem x4) (fun r2 => if r2 = (fX8_rootKey x1) then bd (fX0_beforeAt mem x4) (fun r4 => lk (x3 ||| (fX8_bitOf r4)) (fun x_5 => k23 mem x1 x_5 (x4 + (1 : Int32)))) else k23 mem x1 x3 (x4 + (1 : Int32)))
def fX8_rootsSince_b23  : Nat → Mm → Int32 → Int32 → Int32 → Option Int32
  | 0 => fun _ _ _ _ => none
  | n + 1 => fX8_rootsSince_b23_s  (fX8_rootsSince_b23  n)
set_option maxRecDepth 100000 in
set_option maxHeartbeats 4000000 in
theorem wX8_rootsSince_b23_s {p : Program} {l : Launch} {e : Env} {s : State} {m : MethodId} {args : Array Value} {below : List Frame} {meth : Method} {c : Code} {D : va_G} {ca : Nat → ClassId} {ad : Nat → Nat} {cap : Nat} {H : Heap} {locs : List Loc} {ls : Array Slot} {mem : Mm} {x1 : Int32} {x3 : Int32} {x4 : Int32}  {k23 : Mm → Int32 → Int32 → Int32 → Option Int32} {r : Int32} (X : CallFix p m c cX8_rootsSince 5 s args TT RX8) (M : Mt meth (some .int))  (hk23 : ∀ (x1 : Int32) (x3 : Int32) (x4 : Int32) (H : Heap) (locs : List Loc) (ls : Array Slot) , Wd D ca ad (layC cap) (AA ad (layC cap).length) s.heap s mem H locs → lv_has ls 5 [(0, .ref (ad 0)), (1, .int x1), (3, .int x3), (4, .int x4)] → k23 mem x1 x3 x4 = some r → W p l e (rmx 3 62) s m args below meth c H locs 0 0 (EndI D ca ad (layC cap) mem r below args s) (F0 m 23 ls []))  (w : Wd D ca ad (layC cap) (AA ad (layC cap).length) s.heap s mem H locs) (hl : lv_has ls 5 [(0, .ref (ad 0)), (1, .int x1), (3, .int x3), (4, .int x4)]) (h : fX8_rootsSince_b23_s  k23 mem x1 x3 x4 = some r) : W p l e (rmx 3 62) s m args below meth c H locs 0 0 (EndI D ca ad (layC cap) mem r below args s) (F0 m 23 ls []) := by
  unfold fX8_rootsSince_b23_s at h
  refine lv_iload X.1 X.2.1 dX8_rootsSince_23 (lv_at hl 3 rfl) ?_
  refine lv_aload_n X.1 X.2.1 dX8_rootsSince_25 rfl (lv_at hl 0 rfl) ?_
  refine r_getr (b2 := 37) X w lyC_0 rfl inT8 8 rfl rfl (by decide) rfl tw_320 dX8_rootsSince_26 ?_
  refine r_get X w lyC_37 rfl inT0 2 rfl (by decide) rfl tw_270 dX8_rootsSince_29 ?_
  refine lv_icmp_ge (tgt := 72) X.1 X.2.1 dX8_rootsSince_32 (by decide) (fun c1 => ?_) (fun c1 => ?_)
  · rw [if_pos c1] at h
    refine lv_iload_n X.1 X.2.1 dX8_rootsSince_72 rfl (lv_at hl 2 rfl) ?_
    obtain rfl := Option.some.inj h
    exact r_iret X M w dX8_rootsSince_73
  · rw [if_neg c1] at h
    refine lv_aload_n X.1 X.2.1 dX8_rootsSince_35 rfl (lv_at hl 0 rfl) ?_
    refine r_getr (b2 := 37) X w lyC_0 rfl inT8 8 rfl rfl (by decide) rfl tw_320 dX8_rootsSince_36 ?_
    refine lv_iload X.1 X.2.1 dX8_rootsSince_39 (lv_at hl 3 rfl) ?_
    obtain ⟨r2, hr2, h⟩ := bd_some h
    refine r_cVi (As := [.int x4]) (rest := []) X w lyC_37 rfl (kX0_keyAt (cap := cap) l D ca ad mem x4  hr2) (gTV tw_715 tw_716 tw_717 tw_72 tw_718) hdX0_keyAt (by decide) rfl hl.1 rfl (Nat.le_of_ble_eq_true rfl) dX8_rootsSince_41 ⟨Nat.zero_le _, Nat.zero_le _⟩ (fun H locs w => ?_)
    refine lv_iload_n X.1 X.2.1 dX8_rootsSince_44 rfl (lv_at hl 1 rfl) ?_
    refine r_cSi (As := [.int x1]) (rest := [.int r2]) X w (kX8_rootKey (cap := cap) l D ca ad mem x1  rfl) (gTS tw_395 tw_396 tw_65 tw_397) hdX8_rootKey (by decide) rfl hl.1 rfl (Nat.le_of_ble_eq_true rfl) dX8_rootsSince_45 ⟨Nat.zero_le _, Nat.zero_le _⟩ (fun H locs w => ?_)
    refine lv_icmp_ne (tgt := 66) X.1 X.2.1 dX8_rootsSince_48 (by decide) (fun c3 => ?_) (fun c3 => ?_)
    · rw [if_neg c3] at h
      refine lv_iinc (v := (x4 + (1 : Int32))) (lv' := [(4, .int (x4 + (1 : Int32))), (0, .ref (ad 0)), (1, .int x1), (3, .int x3)]) X.1 X.2.1 dX8_rootsSince_66 hl (k := 3) rfl rfl (by decide) rfl (fun ls hl => ?_)
      refine lv_goto (tgt := 23) X.1 X.2.1 dX8_rootsSince_69 (by decide) ?_
      exact hk23 _ _ _ H locs ls w (lv_sub hl [1, 2, 3, 0] rfl) h
    · rw [if_pos c3] at h
      refine lv_iload_n X.1 X.2.1 dX8_rootsSince_51 rfl (lv_at hl 2 rfl) ?_
      refine lv_aload_n X.1 X.2.1 dX8_rootsSince_52 rfl (lv_at hl 0 rfl) ?_
      refine r_getr (b2 := 37) X w lyC_0 rfl inT8 8 rfl rfl (by decide) rfl tw_320 dX8_rootsSince_53 ?_
      refine lv_iload X.1 X.2.1 dX8_rootsSince_56 (lv_at hl 3 rfl) ?_
      obtain ⟨r4, hr4, h⟩ := bd_some h
      refine r_cVi (As := [.int x4]) (rest := [.int x3]) X w lyC_37 rfl (kX0_beforeAt (cap := cap) l D ca ad mem x4  hr4) (gTV tw_719 tw_720 tw_721 tw_72 tw_722) hdX0_beforeAt (by decide) rfl hl.1 rfl (Nat.le_of_ble_eq_true rfl) dX8_rootsSince_58 ⟨Nat.zero_le _, Nat.zero_le _⟩ (fun H locs w => ?_)
      refine r_cSi (As := [.int r4]) (rest := [.int x3]) X w (kX8_bitOf (cap := cap) l D ca ad mem r4  rfl) (gTS tw_702 tw_703 tw_65 tw_704) hdX8_bitOf (by decide) rfl hl.1 rfl (Nat.le_of_ble_eq_true rfl) dX8_rootsSince_61 ⟨Nat.zero_le _, Nat.zero_le _⟩ (fun H locs w => ?_)
      refine lv_ior X.1 X.2.1 dX8_rootsSince_64 ?_
      obtain ⟨x_5, ex_5, h⟩ := lk_some h
      refine lv_name ex_5 ?_
      refine lv_istore_n (lv' := [(3, .int x_5), (0, .ref (ad 0)), (1, .int x1), (4, .int x4)]) X.1 X.2.1 dX8_rootsSince_65 rfl hl (by decide) rfl (fun ls hl => ?_)
      refine lv_iinc (v := (x4 + (1 : Int32))) (lv' := [(4, .int (x4 + (1 : Int32))), (3, .int x_5), (0, .ref (ad 0)), (1, .int x1)]) X.1 X.2.1 dX8_rootsSince_66 hl (k := 3) rfl rfl (by decide) rfl (fun ls hl => ?_)
      refine lv_goto (tgt := 23) X.1 X.2.1 dX8_rootsSince_69 (by decide) ?_
      exact hk23 _ _ _ H locs ls w (lv_sub hl [2, 3, 1, 0] rfl) h
set_option maxRecDepth 100000 in
set_option maxHeartbeats 4000000 in
theorem wX8_rootsSince_b23 {p : Program} {l : Launch} {e : Env} {s : State} {m : MethodId} {args : Array Value} {below : List Frame} {meth : Method} {c : Code} {D : va_G} {ca : Nat → ClassId} {ad : Nat → Nat} {cap : Nat} {mem : Mm}  {r : Int32} (X : CallFix p m c cX8_rootsSince 5 s args TT RX8) (M : Mt meth (some .int))  : ∀ (n : Nat) (x1 : Int32) (x3 : Int32) (x4 : Int32) (H : Heap) (locs : List Loc) (ls : Array Slot)  (_ : Wd D ca ad (layC cap) (AA ad (layC cap).length) s.heap s mem H locs) (_ : lv_has ls 5 [(0, .ref (ad 0)), (1, .int x1), (3, .int x3), (4, .int x4)]) (_ : fX8_rootsSince_b23  n mem x1 x3 x4 = some r), W p l e (rmx 3 62) s m args below meth c H locs 0 0 (EndI D ca ad (layC cap) mem r below args s) (F0 m 23 ls []) := by
  intro n
  induction n with
  | zero => intro x1 x3 x4 H locs ls  w hl h; exact (nofun : (none : Option Int32) = _ → _) h
  | succ n ih => intro x1 x3 x4 H locs ls  w hl h; exact wX8_rootsSince_b23_s X M  ih  w hl h
def fX8_rootsSince (mem : Mm) (a1 : Int32) (a2 : Int32) : Option Int32 :=
  gd a1 6 (lk (fX8_bitOf (mem 4 a1.toNatClampNeg)) (fun x_2 => bd (fX0_firstSince mem a2) (fun r3 => fX8_rootsSince_b23 2000 mem a1 x_2 r3)))
set_option maxRecDepth 100000 in
set_option maxHeartbeats 4000000 in
theorem kX8_rootsSince {cap : Nat} (l : Launch) (D : va_G) (ca : Nat → ClassId) (ad : Nat → Nat) (mem : Mm) (a1 : Int32) (a2 : Int32)  {r : Int32} (h : fX8_rootsSince mem a1 a2 = some r) : CtI l yX8_rootsSince cX8_rootsSince 5 (some .int) (rmx 3 62) D ca ad (layC cap) mem [.ref (ad 0), .int a1, .int a2] mem r := by
  refine CtI.of (by decide) (Nat.le_of_ble_eq_true rfl) ?_
  intro p e s m args below meth c H locs ls X M w hl
  replace X : CallFix p m c cX8_rootsSince 5 s args TT RX8 := X
  replace hl : lv_has ls 5 [(0, .ref (ad 0)), (1, .int a1), (2, .int a2)] := hl
  unfold fX8_rootsSince at h
  refine lv_aload_n X.1 X.2.1 dX8_rootsSince_0 rfl (lv_at hl 0 rfl) ?_
  refine r_getr (b2 := 3) X w lyC_0 rfl inT8 2 rfl rfl (by decide) rfl tw_314 dX8_rootsSince_1 ?_
  refine r_getr (b2 := 4) X w lyC_3 rfl inT4 0 rfl rfl (by decide) rfl tw_101 dX8_rootsSince_4 ?_
  refine lv_iload_n X.1 X.2.1 dX8_rootsSince_7 rfl (lv_at hl 1 rfl) ?_
  obtain ⟨hi1, h⟩ := gd_some h
  refine r_iald X w lyC_4 hi1 dX8_rootsSince_8 ?_
  refine r_cSi (As := [.int (mem 4 a1.toNatClampNeg)]) (rest := []) X w (kX8_bitOf (cap := cap) l D ca ad mem (mem 4 a1.toNatClampNeg)  rfl) (gTS tw_702 tw_703 tw_65 tw_704) hdX8_bitOf (by decide) rfl hl.1 rfl (Nat.le_of_ble_eq_true rfl) dX8_rootsSince_9 ⟨Nat.zero_le _, Nat.zero_le _⟩ (fun H locs w => ?_)
  obtain ⟨x_2, ex_2, h⟩ := lk_some h
  refine lv_name ex_2 ?_
  refine lv_istore_n (lv' := [(3, .int x_2), (0, .ref (ad 0)), (1, .int a1), (2, .int a2)]) X.1 X.2.1 dX8_rootsSince_12 rfl hl (by decide) rfl (fun ls hl => ?_)
  refine lv_aload_n X.1 X.2.1 dX8_rootsSince_13 rfl (lv_at hl 1 rfl) ?_
  refine r_getr (b2 := 37) X w lyC_0 rfl inT8 8 rfl rfl (by decide) rfl tw_320 dX8_rootsSince_14 ?_
  refine lv_iload_n X.1 X.2.1 dX8_rootsSince_17 rfl (lv_at hl 3 rfl) ?_
  obtain ⟨r3, hr3, h⟩ := bd_some h
  refine r_cVi (As := [.int a2]) (rest := []) X w lyC_37 rfl (kX0_firstSince (cap := cap) l D ca ad mem a2  hr3) (gTV tw_705 tw_706 tw_707 tw_72 tw_708) hdX0_firstSince (by decide) rfl hl.1 rfl (Nat.le_of_ble_eq_true rfl) dX8_rootsSince_18 ⟨Nat.zero_le _, Nat.zero_le _⟩ (fun H locs w => ?_)
  refine lv_istore (lv' := [(4, .int r3), (3, .int x_2), (0, .ref (ad 0)), (1, .int a1), (2, .int a2)]) X.1 X.2.1 dX8_rootsSince_21 hl (by decide) rfl (fun ls hl => ?_)
  exact wX8_rootsSince_b23 X M _ _ _ _ H locs ls w (lv_sub hl [2, 3, 1, 0] rfl) h
/-! WalkHouse.gatherCode(IIZ)I (W) -/
theorem hdX8_gatherCode : yX8_gatherCode.cls = RX8 ∧ yX8_gatherCode.cls ≠ "java/lang/invoke/MethodHandle" ∧ yX8_gatherCode.cls ≠ "java/lang/invoke/VarHandle" ∧ (parseMethodDescriptor yX8_gatherCode.desc).map (fun d => d.parameters.length) = some 3 := by decide +kernel
def fX8_gatherCode_b38  (mem : Mm) (x1 : Int32) (x2 : Int32) : Option (Mm × Int32) :=
  bw (fX2_add mem ((fX8_targetOf x1) + x2)) (fun m2 r1 => some (m2, (0 : Int32)))
set_option maxRecDepth 100000 in
set_option maxHeartbeats 4000000 in
theorem wX8_gatherCode_b38 {p : Program} {l : Launch} {e : Env} {s : State} {m : MethodId} {args : Array Value} {below : List Frame} {meth : Method} {c : Code} {D : va_G} {ca : Nat → ClassId} {ad : Nat → Nat} {cap : Nat} {H : Heap} {locs : List Loc} {ls : Array Slot} {mem : Mm} {x1 : Int32} {x2 : Int32}  {mem' : Mm} {r : Int32} (X : CallFix p m c cX8_gatherCode 4 s args TT RX8) (M : Mt meth (some .int))   (w : Wd D ca ad (layC cap) (AA ad (layC cap).length) s.heap s mem H locs) (hl : lv_has ls 4 [(0, .ref (ad 0)), (1, .int x1), (2, .int x2)]) (h : fX8_gatherCode_b38  mem x1 x2 = some (mem', r)) : W p l e (rmx 1 21) s m args below meth c H locs 0 0 (EndI D ca ad (layC cap) mem' r below args s) (F0 m 38 ls []) := by
  unfold fX8_gatherCode_b38 at h
  refine lv_aload_n X.1 X.2.1 dX8_gatherCode_38 rfl (lv_at hl 0 rfl) ?_
  refine r_getr (b2 := 44) X w lyC_0 rfl inT8 10 rfl rfl (by decide) rfl tw_322 dX8_gatherCode_39 ?_
  refine lv_iload_n X.1 X.2.1 dX8_gatherCode_42 rfl (lv_at hl 1 rfl) ?_
  refine r_cSi (As := [.int x1]) (rest := [.ref (ad 44)]) X w (kX8_targetOf (cap := cap) l D ca ad mem x1  rfl) (gTS tw_565 tw_566 tw_65 tw_567) hdX8_targetOf (by decide) rfl hl.1 rfl (Nat.le_of_ble_eq_true rfl) dX8_gatherCode_43 ⟨Nat.zero_le _, Nat.zero_le _⟩ (fun H locs w => ?_)
  refine lv_iload_n X.1 X.2.1 dX8_gatherCode_46 rfl (lv_at hl 2 rfl) ?_
  refine lv_iadd X.1 X.2.1 dX8_gatherCode_47 ?_
  obtain ⟨m2, r1, hr1, h⟩ := bw_some h
  refine r_cVv (As := [.int ((fX8_targetOf x1) + x2)]) (rest := []) X w lyC_44 rfl (kX2_add (cap := cap) l D ca ad mem ((fX8_targetOf x1) + x2)  hr1) (gTV tw_735 tw_736 tw_737 tw_74 tw_738) hdX2_add (by decide) rfl hl.1 rfl (Nat.le_of_ble_eq_true rfl) dX8_gatherCode_48 ⟨Nat.zero_le _, Nat.zero_le _⟩ (fun H locs w => ?_)
  refine lv_iconst (v := (0 : Int32)) X.1 X.2.1 dX8_gatherCode_51 (by decide) ?_
  obtain ⟨rfl, rfl⟩ := Prod.mk.inj (Option.some.inj h)
  exact r_iret X M w dX8_gatherCode_52
def fX8_gatherCode (mem : Mm) (a1 : Int32) (a2 : Int32) (a3 : Int32) : Option (Mm × Int32) :=
  if (fX8_kindOf a1) = (1 : Int32) then some (mem, (fX8_bitOf (fX8_targetOf a1))) else if (fX8_kindOf a1) = (2 : Int32) then if a3 = 0 then fX8_gatherCode_b38 mem a1 a2 else if ((fX8_rightsOf a1) &&& (8 : Int32)) = 0 then some (mem, (0 : Int32)) else fX8_gatherCode_b38 mem a1 a2 else some (mem, (0 : Int32))
set_option maxRecDepth 100000 in
set_option maxHeartbeats 4000000 in
theorem kX8_gatherCode {cap : Nat} (l : Launch) (D : va_G) (ca : Nat → ClassId) (ad : Nat → Nat) (mem : Mm) (a1 : Int32) (a2 : Int32) (a3 : Int32)  {mem' : Mm} {r : Int32} (h : fX8_gatherCode mem a1 a2 a3 = some (mem', r)) : CtI l yX8_gatherCode cX8_gatherCode 4 (some .int) (rmx 1 21) D ca ad (layC cap) mem [.ref (ad 0), .int a1, .int a2, .int a3] mem' r := by
  refine CtI.of (by decide) (Nat.le_of_ble_eq_true rfl) ?_
  intro p e s m args below meth c H locs ls X M w hl
  replace X : CallFix p m c cX8_gatherCode 4 s args TT RX8 := X
  replace hl : lv_has ls 4 [(0, .ref (ad 0)), (1, .int a1), (2, .int a2), (3, .int a3)] := hl
  unfold fX8_gatherCode at h
  refine lv_iload_n X.1 X.2.1 dX8_gatherCode_0 rfl (lv_at hl 1 rfl) ?_
  refine r_cSi (As := [.int a1]) (rest := []) X w (kX8_kindOf (cap := cap) l D ca ad mem a1  rfl) (gTS tw_381 tw_382 tw_65 tw_383) hdX8_kindOf (by decide) rfl hl.1 rfl (Nat.le_of_ble_eq_true rfl) dX8_gatherCode_1 ⟨Nat.zero_le _, Nat.zero_le _⟩ (fun H locs w => ?_)
  refine lv_iconst (v := (1 : Int32)) X.1 X.2.1 dX8_gatherCode_4 (by decide) ?_
  refine lv_icmp_ne (tgt := 16) X.1 X.2.1 dX8_gatherCode_5 (by decide) (fun c1 => ?_) (fun c1 => ?_)
  · rw [if_neg c1] at h
    refine lv_iload_n X.1 X.2.1 dX8_gatherCode_16 rfl (lv_at hl 1 rfl) ?_
    refine r_cSi (As := [.int a1]) (rest := []) X w (kX8_kindOf (cap := cap) l D ca ad mem a1  rfl) (gTS tw_381 tw_382 tw_65 tw_383) hdX8_kindOf (by decide) rfl hl.1 rfl (Nat.le_of_ble_eq_true rfl) dX8_gatherCode_17 ⟨Nat.zero_le _, Nat.zero_le _⟩ (fun H locs w => ?_)
    refine lv_iconst (v := (2 : Int32)) X.1 X.2.1 dX8_gatherCode_20 (by decide) ?_
    refine lv_icmp_ne (tgt := 51) X.1 X.2.1 dX8_gatherCode_21 (by decide) (fun c2 => ?_) (fun c2 => ?_)
    · rw [if_neg c2] at h
      refine lv_iconst (v := (0 : Int32)) X.1 X.2.1 dX8_gatherCode_51 (by decide) ?_
      obtain ⟨rfl, rfl⟩ := Prod.mk.inj (Option.some.inj h)
      exact r_iret X M w dX8_gatherCode_52
    · rw [if_pos c2] at h
      refine lv_iload_n X.1 X.2.1 dX8_gatherCode_24 rfl (lv_at hl 3 rfl) ?_
      refine lv_if_eq (tgt := 38) X.1 X.2.1 dX8_gatherCode_25 (by decide) (fun c3 => ?_) (fun c3 => ?_)
      · rw [if_pos c3] at h
        exact wX8_gatherCode_b38 X M w (lv_sub hl [0, 1, 2] rfl) h
      · rw [if_neg c3] at h
        refine lv_iload_n X.1 X.2.1 dX8_gatherCode_28 rfl (lv_at hl 1 rfl) ?_
        refine r_cSi (As := [.int a1]) (rest := []) X w (kX8_rightsOf (cap := cap) l D ca ad mem a1  rfl) (gTS tw_537 tw_538 tw_65 tw_539) hdX8_rightsOf (by decide) rfl hl.1 rfl (Nat.le_of_ble_eq_true rfl) dX8_gatherCode_29 ⟨Nat.zero_le _, Nat.zero_le _⟩ (fun H locs w => ?_)
        refine lv_bipush (v := (8 : Int32)) X.1 X.2.1 dX8_gatherCode_32 (by decide) ?_
        refine lv_iand X.1 X.2.1 dX8_gatherCode_34 ?_
        refine lv_if_eq (tgt := 51) X.1 X.2.1 dX8_gatherCode_35 (by decide) (fun c4 => ?_) (fun c4 => ?_)
        · rw [if_pos c4] at h
          refine lv_iconst (v := (0 : Int32)) X.1 X.2.1 dX8_gatherCode_51 (by decide) ?_
          obtain ⟨rfl, rfl⟩ := Prod.mk.inj (Option.some.inj h)
          exact r_iret X M w dX8_gatherCode_52
        · rw [if_neg c4] at h
          exact wX8_gatherCode_b38 X M w (lv_sub hl [0, 1, 2] rfl) h
  · rw [if_pos c1] at h
    refine lv_iload_n X.1 X.2.1 dX8_gatherCode_8 rfl (lv_at hl 1 rfl) ?_
    refine r_cSi (As := [.int a1]) (rest := []) X w (kX8_targetOf (cap := cap) l D ca ad mem a1  rfl) (gTS tw_565 tw_566 tw_65 tw_567) hdX8_targetOf (by decide) rfl hl.1 rfl (Nat.le_of_ble_eq_true rfl) dX8_gatherCode_9 ⟨Nat.zero_le _, Nat.zero_le _⟩ (fun H locs w => ?_)
    refine r_cSi (As := [.int (fX8_targetOf a1)]) (rest := []) X w (kX8_bitOf (cap := cap) l D ca ad mem (fX8_targetOf a1)  rfl) (gTS tw_702 tw_703 tw_65 tw_704) hdX8_bitOf (by decide) rfl hl.1 rfl (Nat.le_of_ble_eq_true rfl) dX8_gatherCode_12 ⟨Nat.zero_le _, Nat.zero_le _⟩ (fun H locs w => ?_)
    obtain ⟨rfl, rfl⟩ := Prod.mk.inj (Option.some.inj h)
    exact r_iret X M w dX8_gatherCode_15
/-! WalkHouse.gatherCell(IIIZ)I (W) -/
theorem hdX8_gatherCell : yX8_gatherCell.cls = RX8 ∧ yX8_gatherCell.cls ≠ "java/lang/invoke/MethodHandle" ∧ yX8_gatherCell.cls ≠ "java/lang/invoke/VarHandle" ∧ (parseMethodDescriptor yX8_gatherCell.desc).map (fun d => d.parameters.length) = some 4 := by decide +kernel
def fX8_gatherCell_b25_s  (k25 : Mm → Int32 → Int32 → Int32 → Int32 → Int32 → Option (Mm × Int32)) (mem : Mm) (x1 : Int32) (x2 : Int32) (x4 : Int32) (x5 : Int32) (x6 : Int32) : Option (Mm × Int32) :=
  if (mem 37 2) ≤ x6 then some (mem, x5) else bd (fX0_keyAt mem x6) (fun r2 => if r2 = x1 then bd (fX0_beforeAt mem x6) (fun r4 => bw (fX8_gatherCode mem r4 x2 x4) (fun m6 r5 => lk (x5 ||| r5) (fun x_7 => k25 m6 x1 x2 x4 x_7 (x6 + (1 : Int32))))) else k25 mem x1 x2 x4 x5 (x6 + (1 : Int32)))
def fX8_gatherCell_b25  : Nat → Mm → Int32 → Int32 → Int32 → Int32 → Int32 → Option (Mm × Int32)
  | 0 => fun _ _ _ _ _ _ => none
  | n + 1 => fX8_gatherCell_b25_s  (fX8_gatherCell_b25  n)
set_option maxRecDepth 100000 in
set_option maxHeartbeats 4000000 in
theorem wX8_gatherCell_b25_s {p : Program} {l : Launch} {e : Env} {s : State} {m : MethodId} {args : Array Value} {below : List Frame} {meth : Method} {c : Code} {D : va_G} {ca : Nat → ClassId} {ad : Nat → Nat} {cap : Nat} {H : Heap} {locs : List Loc} {ls : Array Slot} {mem : Mm} {x1 : Int32} {x2 : Int32} {x4 : Int32} {x5 : Int32} {x6 : Int32}  {k25 : Mm → Int32 → Int32 → Int32 → Int32 → Int32 → Option (Mm × Int32)} {mem' : Mm} {r : Int32} (X : CallFix p m c cX8_gatherCell 7 s args TT RX8) (M : Mt meth (some .int))  (hk25 : ∀ (mem : Mm) (x1 : Int32) (x2 : Int32) (x4 : Int32) (x5 : Int32) (x6 : Int32) (H : Heap) (locs : List Loc) (ls : Array Slot) , Wd D ca ad (layC cap) (AA ad (layC cap).length) s.heap s mem H locs → lv_has ls 7 [(0, .ref (ad 0)), (1, .int x1), (2, .int x2), (4, .int x4), (5, .int x5), (6, .int x6)] → k25 mem x1 x2 x4 x5 x6 = some (mem', r) → W p l e (rmx 3 62) s m args below meth c H locs 0 0 (EndI D ca ad (layC cap) mem' r below args s) (F0 m 25 ls []))  (w : Wd D ca ad (layC cap) (AA ad (layC cap).length) s.heap s mem H locs) (hl : lv_has ls 7 [(0, .ref (ad 0)), (1, .int x1), (2, .int x2), (4, .int x4), (5, .int x5), (6, .int x6)]) (h : fX8_gatherCell_b25_s  k25 mem x1 x2 x4 x5 x6 = some (mem', r)) : W p l e (rmx 3 62) s m args below meth c H locs 0 0 (EndI D ca ad (layC cap) mem' r below args s) (F0 m 25 ls []) := by
  unfold fX8_gatherCell_b25_s at h
  refine lv_iload X.1 X.2.1 dX8_gatherCell_25 (lv_at hl 5 rfl) ?_
  refine lv_aload_n X.1 X.2.1 dX8_gatherCell_27 rfl (lv_at hl 0 rfl) ?_
  refine r_getr (b2 := 37) X w lyC_0 rfl inT8 8 rfl rfl (by decide) rfl tw_320 dX8_gatherCell_28 ?_
  refine r_get X w lyC_37 rfl inT0 2 rfl (by decide) rfl tw_270 dX8_gatherCell_31 ?_
  refine lv_icmp_ge (tgt := 77) X.1 X.2.1 dX8_gatherCell_34 (by decide) (fun c1 => ?_) (fun c1 => ?_)
  · rw [if_pos c1] at h
    refine lv_iload X.1 X.2.1 dX8_gatherCell_77 (lv_at hl 4 rfl) ?_
    obtain ⟨rfl, rfl⟩ := Prod.mk.inj (Option.some.inj h)
    exact r_iret X M w dX8_gatherCell_79
  · rw [if_neg c1] at h
    refine lv_aload_n X.1 X.2.1 dX8_gatherCell_37 rfl (lv_at hl 0 rfl) ?_
    refine r_getr (b2 := 37) X w lyC_0 rfl inT8 8 rfl rfl (by decide) rfl tw_320 dX8_gatherCell_38 ?_
    refine lv_iload X.1 X.2.1 dX8_gatherCell_41 (lv_at hl 5 rfl) ?_
    obtain ⟨r2, hr2, h⟩ := bd_some h
    refine r_cVi (As := [.int x6]) (rest := []) X w lyC_37 rfl (kX0_keyAt (cap := cap) l D ca ad mem x6  hr2) (gTV tw_715 tw_716 tw_717 tw_72 tw_718) hdX0_keyAt (by decide) rfl hl.1 rfl (Nat.le_of_ble_eq_true rfl) dX8_gatherCell_43 ⟨Nat.zero_le _, Nat.zero_le _⟩ (fun H locs w => ?_)
    refine lv_iload_n X.1 X.2.1 dX8_gatherCell_46 rfl (lv_at hl 1 rfl) ?_
    refine lv_icmp_ne (tgt := 71) X.1 X.2.1 dX8_gatherCell_47 (by decide) (fun c3 => ?_) (fun c3 => ?_)
    · rw [if_neg c3] at h
      refine lv_iinc (v := (x6 + (1 : Int32))) (lv' := [(6, .int (x6 + (1 : Int32))), (0, .ref (ad 0)), (1, .int x1), (2, .int x2), (4, .int x4), (5, .int x5)]) X.1 X.2.1 dX8_gatherCell_71 hl (k := 5) rfl rfl (by decide) rfl (fun ls hl => ?_)
      refine lv_goto (tgt := 25) X.1 X.2.1 dX8_gatherCell_74 (by decide) ?_
      exact hk25 _ _ _ _ _ _ H locs ls w (lv_sub hl [1, 2, 3, 4, 5, 0] rfl) h
    · rw [if_pos c3] at h
      refine lv_iload X.1 X.2.1 dX8_gatherCell_50 (lv_at hl 4 rfl) ?_
      refine lv_aload_n X.1 X.2.1 dX8_gatherCell_52 rfl (lv_at hl 0 rfl) ?_
      refine lv_aload_n X.1 X.2.1 dX8_gatherCell_53 rfl (lv_at hl 0 rfl) ?_
      refine r_getr (b2 := 37) X w lyC_0 rfl inT8 8 rfl rfl (by decide) rfl tw_320 dX8_gatherCell_54 ?_
      refine lv_iload X.1 X.2.1 dX8_gatherCell_57 (lv_at hl 5 rfl) ?_
      obtain ⟨r4, hr4, h⟩ := bd_some h
      refine r_cVi (As := [.int x6]) (rest := [.ref (ad 0), .int x5]) X w lyC_37 rfl (kX0_beforeAt (cap := cap) l D ca ad mem x6  hr4) (gTV tw_719 tw_720 tw_721 tw_72 tw_722) hdX0_beforeAt (by decide) rfl hl.1 rfl (Nat.le_of_ble_eq_true rfl) dX8_gatherCell_59 ⟨Nat.zero_le _, Nat.zero_le _⟩ (fun H locs w => ?_)
      refine lv_iload_n X.1 X.2.1 dX8_gatherCell_62 rfl (lv_at hl 2 rfl) ?_
      refine lv_iload X.1 X.2.1 dX8_gatherCell_63 (lv_at hl 3 rfl) ?_
      obtain ⟨m6, r5, hr5, h⟩ := bw_some h
      refine r_cVi (As := [.int r4, .int x2, .int x4]) (rest := [.int x5]) X w lyC_0 rfl (kX8_gatherCode (cap := cap) l D ca ad mem r4 x2 x4  hr5) (gTV tw_731 tw_733 tw_19 tw_65 tw_734) hdX8_gatherCode (by decide) rfl hl.1 rfl (Nat.le_of_ble_eq_true rfl) dX8_gatherCell_65 ⟨Nat.zero_le _, Nat.zero_le _⟩ (fun H locs w => ?_)
      refine lv_ior X.1 X.2.1 dX8_gatherCell_68 ?_
      obtain ⟨x_7, ex_7, h⟩ := lk_some h
      refine lv_name ex_7 ?_
      refine lv_istore (lv' := [(5, .int x_7), (0, .ref (ad 0)), (1, .int x1), (2, .int x2), (4, .int x4), (6, .int x6)]) X.1 X.2.1 dX8_gatherCell_69 hl (by decide) rfl (fun ls hl => ?_)
      refine lv_iinc (v := (x6 + (1 : Int32))) (lv' := [(6, .int (x6 + (1 : Int32))), (5, .int x_7), (0, .ref (ad 0)), (1, .int x1), (2, .int x2), (4, .int x4)]) X.1 X.2.1 dX8_gatherCell_71 hl (k := 5) rfl rfl (by decide) rfl (fun ls hl => ?_)
      refine lv_goto (tgt := 25) X.1 X.2.1 dX8_gatherCell_74 (by decide) ?_
      exact hk25 _ _ _ _ _ _ H locs ls w (lv_sub hl [2, 3, 4, 5, 1, 0] rfl) h
set_option maxRecDepth 100000 in
set_option maxHeartbeats 4000000 in
theorem wX8_gatherCell_b25 {p : Program} {l : Launch} {e : Env} {s : State} {m : MethodId} {args : Array Value} {below : List Frame} {meth : Method} {c : Code} {D : va_G} {ca : Nat → ClassId} {ad : Nat → Nat} {cap : Nat}  {mem' : Mm} {r : Int32} (X : CallFix p m c cX8_gatherCell 7 s args TT RX8) (M : Mt meth (some .int))  : ∀ (n : Nat) (mem : Mm) (x1 : Int32) (x2 : Int32) (x4 : Int32) (x5 : Int32) (x6 : Int32) (H : Heap) (locs : List Loc) (ls : Array Slot)  (_ : Wd D ca ad (layC cap) (AA ad (layC cap).length) s.heap s mem H locs) (_ : lv_has ls 7 [(0, .ref (ad 0)), (1, .int x1), (2, .int x2), (4, .int x4), (5, .int x5), (6, .int x6)]) (_ : fX8_gatherCell_b25  n mem x1 x2 x4 x5 x6 = some (mem', r)), W p l e (rmx 3 62) s m args below meth c H locs 0 0 (EndI D ca ad (layC cap) mem' r below args s) (F0 m 25 ls []) := by
  intro n
  induction n with
  | zero => intro mem x1 x2 x4 x5 x6 H locs ls  w hl h; exact (nofun : (none : Option (Mm × Int32)) = _ → _) h
  | succ n ih => intro mem x1 x2 x4 x5 x6 H locs ls  w hl h; exact wX8_gatherCell_b25_s X M  ih  w hl h
def fX8_gatherCell (mem : Mm) (a1 : Int32) (a2 : Int32) (a3 : Int32) (a4 : Int32) : Option (Mm × Int32) :=
  gd a1 96 (bw (fX8_gatherCode mem (mem 1 a1.toNatClampNeg) a2 a4) (fun m3 r2 => bd (fX0_firstSince m3 a3) (fun r4 => fX8_gatherCell_b25 2000 m3 a1 a2 a4 r2 r4)))
set_option maxRecDepth 100000 in
set_option maxHeartbeats 4000000 in
theorem kX8_gatherCell {cap : Nat} (l : Launch) (D : va_G) (ca : Nat → ClassId) (ad : Nat → Nat) (mem : Mm) (a1 : Int32) (a2 : Int32) (a3 : Int32) (a4 : Int32)  {mem' : Mm} {r : Int32} (h : fX8_gatherCell mem a1 a2 a3 a4 = some (mem', r)) : CtI l yX8_gatherCell cX8_gatherCell 7 (some .int) (rmx 3 62) D ca ad (layC cap) mem [.ref (ad 0), .int a1, .int a2, .int a3, .int a4] mem' r := by
  refine CtI.of (by decide) (Nat.le_of_ble_eq_true rfl) ?_
  intro p e s m args below meth c H locs ls X M w hl
  replace X : CallFix p m c cX8_gatherCell 7 s args TT RX8 := X
  replace hl : lv_has ls 7 [(0, .ref (ad 0)), (1, .int a1), (2, .int a2), (3, .int a3), (4, .int a4)] := hl
  unfold fX8_gatherCell at h
  refine lv_aload_n X.1 X.2.1 dX8_gatherCell_0 rfl (lv_at hl 0 rfl) ?_
  refine lv_aload_n X.1 X.2.1 dX8_gatherCell_1 rfl (lv_at hl 0 rfl) ?_
  refine r_getr (b2 := 1) X w lyC_0 rfl inT8 0 rfl rfl (by decide) rfl tw_312 dX8_gatherCell_2 ?_
  refine lv_iload_n X.1 X.2.1 dX8_gatherCell_5 rfl (lv_at hl 1 rfl) ?_
  obtain ⟨hi1, h⟩ := gd_some h
  refine r_iald X w lyC_1 hi1 dX8_gatherCell_6 ?_
  refine lv_iload_n X.1 X.2.1 dX8_gatherCell_7 rfl (lv_at hl 2 rfl) ?_
  refine lv_iload X.1 X.2.1 dX8_gatherCell_8 (lv_at hl 4 rfl) ?_
  obtain ⟨m3, r2, hr2, h⟩ := bw_some h
  refine r_cVi (As := [.int (mem 1 a1.toNatClampNeg), .int a2, .int a4]) (rest := []) X w lyC_0 rfl (kX8_gatherCode (cap := cap) l D ca ad mem (mem 1 a1.toNatClampNeg) a2 a4  hr2) (gTV tw_731 tw_733 tw_19 tw_65 tw_734) hdX8_gatherCode (by decide) rfl hl.1 rfl (Nat.le_of_ble_eq_true rfl) dX8_gatherCell_10 ⟨Nat.zero_le _, Nat.zero_le _⟩ (fun H locs w => ?_)
  refine lv_istore (lv' := [(5, .int r2), (0, .ref (ad 0)), (1, .int a1), (2, .int a2), (3, .int a3), (4, .int a4)]) X.1 X.2.1 dX8_gatherCell_13 hl (by decide) rfl (fun ls hl => ?_)
  refine lv_aload_n X.1 X.2.1 dX8_gatherCell_15 rfl (lv_at hl 1 rfl) ?_
  refine r_getr (b2 := 37) X w lyC_0 rfl inT8 8 rfl rfl (by decide) rfl tw_320 dX8_gatherCell_16 ?_
  refine lv_iload_n X.1 X.2.1 dX8_gatherCell_19 rfl (lv_at hl 4 rfl) ?_
  obtain ⟨r4, hr4, h⟩ := bd_some h
  refine r_cVi (As := [.int a3]) (rest := []) X w lyC_37 rfl (kX0_firstSince (cap := cap) l D ca ad m3 a3  hr4) (gTV tw_705 tw_706 tw_707 tw_72 tw_708) hdX0_firstSince (by decide) rfl hl.1 rfl (Nat.le_of_ble_eq_true rfl) dX8_gatherCell_20 ⟨Nat.zero_le _, Nat.zero_le _⟩ (fun H locs w => ?_)
  refine lv_istore (lv' := [(6, .int r4), (5, .int r2), (0, .ref (ad 0)), (1, .int a1), (2, .int a2), (3, .int a3), (4, .int a4)]) X.1 X.2.1 dX8_gatherCell_23 hl (by decide) rfl (fun ls hl => ?_)
  exact wX8_gatherCell_b25 X M _ _ _ _ _ _ _ H locs ls w (lv_sub hl [2, 3, 4, 6, 1, 0] rfl) h
/-! WalkHouse.gatherFrames(IIIZ)V (W) -/
theorem hdX8_gatherFrames : yX8_gatherFrames.cls = RX8 ∧ yX8_gatherFrames.cls ≠ "java/lang/invoke/MethodHandle" ∧ yX8_gatherFrames.cls ≠ "java/lang/invoke/VarHandle" ∧ (parseMethodDescriptor yX8_gatherFrames.desc).map (fun d => d.parameters.length) = some 4 := by decide +kernel
def fX8_gatherFrames_b17_s (k6 : Mm → Int32 → Int32 → Int32 → Int32 → Int32 → Option (Mm × Unit)) (k17 : Mm → Int32 → Int32 → Int32 → Int32 → Int32 → Int32 → Int32 → Option (Mm × Unit)) (mem : Mm) (x1 : Int32) (x3 : Int32) (x4 : Int32) (x5 : Int32) (x6 : Int32) (x7 : Int32) (x8 : Int32) : Option (Mm × Unit) :=
  if (12 : Int32) ≤ x8 then k6 mem x1 x3 x4 x7 (x6 + (-1 : Int32)) else if (x5 &&& (fX8_bitOf x8)) = 0 then k17 mem x1 x3 x4 x5 x6 x7 (x8 + (1 : Int32)) else bw (fX8_gatherCell mem (fX8_cellOf x8 (fX8_digitOf x1 x6)) (fX8_restOf x1 x6) x3 x4) (fun m4 r3 => lk (x7 ||| r3) (fun x_5 => k17 m4 x1 x3 x4 x5 x6 x_5 (x8 + (1 : Int32))))
def fX8_gatherFrames_b17 (k6 : Mm → Int32 → Int32 → Int32 → Int32 → Int32 → Option (Mm × Unit)) : Nat → Mm → Int32 → Int32 → Int32 → Int32 → Int32 → Int32 → Int32 → Option (Mm × Unit)
  | 0 => fun _ _ _ _ _ _ _ _ => none
  | n + 1 => fX8_gatherFrames_b17_s k6 (fX8_gatherFrames_b17 k6 n)
set_option maxRecDepth 100000 in
set_option maxHeartbeats 4000000 in
theorem wX8_gatherFrames_b17_s {p : Program} {l : Launch} {e : Env} {s : State} {m : MethodId} {args : Array Value} {below : List Frame} {meth : Method} {c : Code} {D : va_G} {ca : Nat → ClassId} {ad : Nat → Nat} {cap : Nat} {H : Heap} {locs : List Loc} {ls : Array Slot} {mem : Mm} {x1 : Int32} {x3 : Int32} {x4 : Int32} {x5 : Int32} {x6 : Int32} {x7 : Int32} {x8 : Int32} {k6 : Mm → Int32 → Int32 → Int32 → Int32 → Int32 → Option (Mm × Unit)} {k17 : Mm → Int32 → Int32 → Int32 → Int32 → Int32 → Int32 → Int32 → Option (Mm × Unit)} {mem' : Mm} {r : Unit} (X : CallFix p m c cX8_gatherFrames 9 s args TT RX8) (M : Mt meth none) (hk6 : ∀ (mem : Mm) (x1 : Int32) (x3 : Int32) (x4 : Int32) (x5 : Int32) (x6 : Int32) (H : Heap) (locs : List Loc) (ls : Array Slot) , Wd D ca ad (layC cap) (AA ad (layC cap).length) s.heap s mem H locs → lv_has ls 9 [(0, .ref (ad 0)), (1, .int x1), (3, .int x3), (4, .int x4), (5, .int x5), (6, .int x6)] → k6 mem x1 x3 x4 x5 x6 = some (mem', r) → W p l e (rmx 4 88) s m args below meth c H locs 0 0 (EndV D ca ad (layC cap) mem' below args s) (F0 m 6 ls [])) (hk17 : ∀ (mem : Mm) (x1 : Int32) (x3 : Int32) (x4 : Int32) (x5 : Int32) (x6 : Int32) (x7 : Int32) (x8 : Int32) (H : Heap) (locs : List Loc) (ls : Array Slot) , Wd D ca ad (layC cap) (AA ad (layC cap).length) s.heap s mem H locs → lv_has ls 9 [(0, .ref (ad 0)), (1, .int x1), (3, .int x3), (4, .int x4), (5, .int x5), (6, .int x6), (7, .int x7), (8, .int x8)] → k17 mem x1 x3 x4 x5 x6 x7 x8 = some (mem', r) → W p l e (rmx 4 88) s m args below meth c H locs 0 0 (EndV D ca ad (layC cap) mem' below args s) (F0 m 17 ls []))  (w : Wd D ca ad (layC cap) (AA ad (layC cap).length) s.heap s mem H locs) (hl : lv_has ls 9 [(0, .ref (ad 0)), (1, .int x1), (3, .int x3), (4, .int x4), (5, .int x5), (6, .int x6), (7, .int x7), (8, .int x8)]) (h : fX8_gatherFrames_b17_s k6 k17 mem x1 x3 x4 x5 x6 x7 x8 = some (mem', r)) : W p l e (rmx 4 88) s m args below meth c H locs 0 0 (EndV D ca ad (layC cap) mem' below args s) (F0 m 17 ls []) := by
  unfold fX8_gatherFrames_b17_s at h
  refine lv_iload X.1 X.2.1 dX8_gatherFrames_17 (lv_at hl 7 rfl) ?_
  refine lv_bipush (v := (12 : Int32)) X.1 X.2.1 dX8_gatherFrames_19 (by decide) ?_
  refine lv_icmp_ge (tgt := 70) X.1 X.2.1 dX8_gatherFrames_21 (by decide) (fun c1 => ?_) (fun c1 => ?_)
  · rw [if_pos c1] at h
    refine lv_iload X.1 X.2.1 dX8_gatherFrames_70 (lv_at hl 6 rfl) ?_
    refine lv_istore (lv' := [(5, .int x7), (0, .ref (ad 0)), (1, .int x1), (3, .int x3), (4, .int x4), (6, .int x6), (7, .int x7), (8, .int x8)]) X.1 X.2.1 dX8_gatherFrames_72 hl (by decide) rfl (fun ls hl => ?_)
    refine lv_iinc (v := (x6 + (-1 : Int32))) (lv' := [(6, .int (x6 + (-1 : Int32))), (5, .int x7), (0, .ref (ad 0)), (1, .int x1), (3, .int x3), (4, .int x4), (7, .int x7), (8, .int x8)]) X.1 X.2.1 dX8_gatherFrames_74 hl (k := 5) rfl rfl (by decide) rfl (fun ls hl => ?_)
    refine lv_goto (tgt := 6) X.1 X.2.1 dX8_gatherFrames_77 (by decide) ?_
    exact hk6 _ _ _ _ _ _ H locs ls w (lv_sub hl [2, 3, 4, 5, 1, 0] rfl) h
  · rw [if_neg c1] at h
    refine lv_iload X.1 X.2.1 dX8_gatherFrames_24 (lv_at hl 4 rfl) ?_
    refine lv_iload X.1 X.2.1 dX8_gatherFrames_26 (lv_at hl 7 rfl) ?_
    refine r_cSi (As := [.int x8]) (rest := [.int x5]) X w (kX8_bitOf (cap := cap) l D ca ad mem x8  rfl) (gTS tw_702 tw_703 tw_65 tw_704) hdX8_bitOf (by decide) rfl hl.1 rfl (Nat.le_of_ble_eq_true rfl) dX8_gatherFrames_28 ⟨Nat.zero_le _, Nat.zero_le _⟩ (fun H locs w => ?_)
    refine lv_iand X.1 X.2.1 dX8_gatherFrames_31 ?_
    refine lv_if_eq (tgt := 64) X.1 X.2.1 dX8_gatherFrames_32 (by decide) (fun c2 => ?_) (fun c2 => ?_)
    · rw [if_pos c2] at h
      refine lv_iinc (v := (x8 + (1 : Int32))) (lv' := [(8, .int (x8 + (1 : Int32))), (0, .ref (ad 0)), (1, .int x1), (3, .int x3), (4, .int x4), (5, .int x5), (6, .int x6), (7, .int x7)]) X.1 X.2.1 dX8_gatherFrames_64 hl (k := 7) rfl rfl (by decide) rfl (fun ls hl => ?_)
      refine lv_goto (tgt := 17) X.1 X.2.1 dX8_gatherFrames_67 (by decide) ?_
      exact hk17 _ _ _ _ _ _ _ _ H locs ls w (lv_sub hl [1, 2, 3, 4, 5, 6, 7, 0] rfl) h
    · rw [if_neg c2] at h
      refine lv_iload X.1 X.2.1 dX8_gatherFrames_35 (lv_at hl 6 rfl) ?_
      refine lv_aload_n X.1 X.2.1 dX8_gatherFrames_37 rfl (lv_at hl 0 rfl) ?_
      refine lv_iload X.1 X.2.1 dX8_gatherFrames_38 (lv_at hl 7 rfl) ?_
      refine lv_iload_n X.1 X.2.1 dX8_gatherFrames_40 rfl (lv_at hl 1 rfl) ?_
      refine lv_iload X.1 X.2.1 dX8_gatherFrames_41 (lv_at hl 5 rfl) ?_
      refine r_cSi (As := [.int x1, .int x6]) (rest := [.int x8, .ref (ad 0), .int x7]) X w (kX8_digitOf (cap := cap) l D ca ad mem x1 x6  rfl) (gTS tw_534 tw_535 tw_65 tw_536) hdX8_digitOf (by decide) rfl hl.1 rfl (Nat.le_of_ble_eq_true rfl) dX8_gatherFrames_43 ⟨Nat.zero_le _, Nat.zero_le _⟩ (fun H locs w => ?_)
      refine r_cSi (As := [.int x8, .int (fX8_digitOf x1 x6)]) (rest := [.ref (ad 0), .int x7]) X w (kX8_cellOf (cap := cap) l D ca ad mem x8 (fX8_digitOf x1 x6)  rfl) (gTS tw_371 tw_372 tw_65 tw_373) hdX8_cellOf (by decide) rfl hl.1 rfl (Nat.le_of_ble_eq_true rfl) dX8_gatherFrames_46 ⟨Nat.zero_le _, Nat.zero_le _⟩ (fun H locs w => ?_)
      refine lv_iload_n X.1 X.2.1 dX8_gatherFrames_49 rfl (lv_at hl 1 rfl) ?_
      refine lv_iload X.1 X.2.1 dX8_gatherFrames_50 (lv_at hl 5 rfl) ?_
      refine r_cSi (As := [.int x1, .int x6]) (rest := [.int (fX8_cellOf x8 (fX8_digitOf x1 x6)), .ref (ad 0), .int x7]) X w (kX8_restOf (cap := cap) l D ca ad mem x1 x6  rfl) (gTS tw_464 tw_465 tw_65 tw_466) hdX8_restOf (by decide) rfl hl.1 rfl (Nat.le_of_ble_eq_true rfl) dX8_gatherFrames_52 ⟨Nat.zero_le _, Nat.zero_le _⟩ (fun H locs w => ?_)
      refine lv_iload_n X.1 X.2.1 dX8_gatherFrames_55 rfl (lv_at hl 2 rfl) ?_
      refine lv_iload X.1 X.2.1 dX8_gatherFrames_56 (lv_at hl 3 rfl) ?_
      obtain ⟨m4, r3, hr3, h⟩ := bw_some h
      refine r_cVi (As := [.int (fX8_cellOf x8 (fX8_digitOf x1 x6)), .int (fX8_restOf x1 x6), .int x3, .int x4]) (rest := [.int x7]) X w lyC_0 rfl (kX8_gatherCell (cap := cap) l D ca ad mem (fX8_cellOf x8 (fX8_digitOf x1 x6)) (fX8_restOf x1 x6) x3 x4  hr3) (gTV tw_727 tw_729 tw_18 tw_65 tw_730) hdX8_gatherCell (by decide) rfl hl.1 rfl (Nat.le_of_ble_eq_true rfl) dX8_gatherFrames_58 ⟨Nat.zero_le _, Nat.zero_le _⟩ (fun H locs w => ?_)
      refine lv_ior X.1 X.2.1 dX8_gatherFrames_61 ?_
      obtain ⟨x_5, ex_5, h⟩ := lk_some h
      refine lv_name ex_5 ?_
      refine lv_istore (lv' := [(7, .int x_5), (0, .ref (ad 0)), (1, .int x1), (3, .int x3), (4, .int x4), (5, .int x5), (6, .int x6), (8, .int x8)]) X.1 X.2.1 dX8_gatherFrames_62 hl (by decide) rfl (fun ls hl => ?_)
      refine lv_iinc (v := (x8 + (1 : Int32))) (lv' := [(8, .int (x8 + (1 : Int32))), (7, .int x_5), (0, .ref (ad 0)), (1, .int x1), (3, .int x3), (4, .int x4), (5, .int x5), (6, .int x6)]) X.1 X.2.1 dX8_gatherFrames_64 hl (k := 7) rfl rfl (by decide) rfl (fun ls hl => ?_)
      refine lv_goto (tgt := 17) X.1 X.2.1 dX8_gatherFrames_67 (by decide) ?_
      exact hk17 _ _ _ _ _ _ _ _ H locs ls w (lv_sub hl [2, 3, 4, 5, 6, 7, 1, 0] rfl) h
set_option maxRecDepth 100000 in
set_option maxHeartbeats 4000000 in
theorem wX8_gatherFrames_b17 {p : Program} {l : Launch} {e : Env} {s : State} {m : MethodId} {args : Array Value} {below : List Frame} {meth : Method} {c : Code} {D : va_G} {ca : Nat → ClassId} {ad : Nat → Nat} {cap : Nat} {k6 : Mm → Int32 → Int32 → Int32 → Int32 → Int32 → Option (Mm × Unit)} {mem' : Mm} {r : Unit} (X : CallFix p m c cX8_gatherFrames 9 s args TT RX8) (M : Mt meth none) (hk6 : ∀ (mem : Mm) (x1 : Int32) (x3 : Int32) (x4 : Int32) (x5 : Int32) (x6 : Int32) (H : Heap) (locs : List Loc) (ls : Array Slot) , Wd D ca ad (layC cap) (AA ad (layC cap).length) s.heap s mem H locs → lv_has ls 9 [(0, .ref (ad 0)), (1, .int x1), (3, .int x3), (4, .int x4), (5, .int x5), (6, .int x6)] → k6 mem x1 x3 x4 x5 x6 = some (mem', r) → W p l e (rmx 4 88) s m args below meth c H locs 0 0 (EndV D ca ad (layC cap) mem' below args s) (F0 m 6 ls [])) : ∀ (n : Nat) (mem : Mm) (x1 : Int32) (x3 : Int32) (x4 : Int32) (x5 : Int32) (x6 : Int32) (x7 : Int32) (x8 : Int32) (H : Heap) (locs : List Loc) (ls : Array Slot)  (_ : Wd D ca ad (layC cap) (AA ad (layC cap).length) s.heap s mem H locs) (_ : lv_has ls 9 [(0, .ref (ad 0)), (1, .int x1), (3, .int x3), (4, .int x4), (5, .int x5), (6, .int x6), (7, .int x7), (8, .int x8)]) (_ : fX8_gatherFrames_b17 k6 n mem x1 x3 x4 x5 x6 x7 x8 = some (mem', r)), W p l e (rmx 4 88) s m args below meth c H locs 0 0 (EndV D ca ad (layC cap) mem' below args s) (F0 m 17 ls []) := by
  intro n
  induction n with
  | zero => intro mem x1 x3 x4 x5 x6 x7 x8 H locs ls  w hl h; exact (nofun : (none : Option (Mm × Unit)) = _ → _) h
  | succ n ih => intro mem x1 x3 x4 x5 x6 x7 x8 H locs ls  w hl h; exact wX8_gatherFrames_b17_s X M hk6 ih  w hl h
def fX8_gatherFrames_b6_s  (k6 : Mm → Int32 → Int32 → Int32 → Int32 → Int32 → Option (Mm × Unit)) (mem : Mm) (x1 : Int32) (x3 : Int32) (x4 : Int32) (x5 : Int32) (x6 : Int32) : Option (Mm × Unit) :=
  if x6 < 0 then some (mem, ()) else fX8_gatherFrames_b17 k6 2000 mem x1 x3 x4 x5 x6 (0 : Int32) (0 : Int32)
def fX8_gatherFrames_b6  : Nat → Mm → Int32 → Int32 → Int32 → Int32 → Int32 → Option (Mm × Unit)
  | 0 => fun _ _ _ _ _ _ => none
  | n + 1 => fX8_gatherFrames_b6_s  (fX8_gatherFrames_b6  n)
set_option maxRecDepth 100000 in
set_option maxHeartbeats 4000000 in
theorem wX8_gatherFrames_b6_s {p : Program} {l : Launch} {e : Env} {s : State} {m : MethodId} {args : Array Value} {below : List Frame} {meth : Method} {c : Code} {D : va_G} {ca : Nat → ClassId} {ad : Nat → Nat} {cap : Nat} {H : Heap} {locs : List Loc} {ls : Array Slot} {mem : Mm} {x1 : Int32} {x3 : Int32} {x4 : Int32} {x5 : Int32} {x6 : Int32}  {k6 : Mm → Int32 → Int32 → Int32 → Int32 → Int32 → Option (Mm × Unit)} {mem' : Mm} {r : Unit} (X : CallFix p m c cX8_gatherFrames 9 s args TT RX8) (M : Mt meth none)  (hk6 : ∀ (mem : Mm) (x1 : Int32) (x3 : Int32) (x4 : Int32) (x5 : Int32) (x6 : Int32) (H : Heap) (locs : List Loc) (ls : Array Slot) , Wd D ca ad (layC cap) (AA ad (layC cap).length) s.heap s mem H locs → lv_has ls 9 [(0, .ref (ad 0)), (1, .int x1), (3, .int x3), (4, .int x4), (5, .int x5), (6, .int x6)] → k6 mem x1 x3 x4 x5 x6 = some (mem', r) → W p l e (rmx 4 88) s m args below meth c H locs 0 0 (EndV D ca ad (layC cap) mem' below args s) (F0 m 6 ls []))  (w : Wd D ca ad (layC cap) (AA ad (layC cap).length) s.heap s mem H locs) (hl : lv_has ls 9 [(0, .ref (ad 0)), (1, .int x1), (3, .int x3), (4, .int x4), (5, .int x5), (6, .int x6)]) (h : fX8_gatherFrames_b6_s  k6 mem x1 x3 x4 x5 x6 = some (mem', r)) : W p l e (rmx 4 88) s m args below meth c H locs 0 0 (EndV D ca ad (layC cap) mem' below args s) (F0 m 6 ls []) := by
  unfold fX8_gatherFrames_b6_s at h
  refine lv_iload X.1 X.2.1 dX8_gatherFrames_6 (lv_at hl 5 rfl) ?_
  refine lv_if_lt (tgt := 80) X.1 X.2.1 dX8_gatherFrames_8 (by decide) (fun c1 => ?_) (fun c1 => ?_)
  · rw [if_pos c1] at h
    obtain ⟨rfl, -⟩ := Prod.mk.inj (Option.some.inj h)
    exact r_vret X M w dX8_gatherFrames_80
  · rw [if_neg c1] at h
    refine lv_iconst (v := (0 : Int32)) X.1 X.2.1 dX8_gatherFrames_11 (by decide) ?_
    refine lv_istore (lv' := [(7, .int (0 : Int32)), (0, .ref (ad 0)), (1, .int x1), (3, .int x3), (4, .int x4), (5, .int x5), (6, .int x6)]) X.1 X.2.1 dX8_gatherFrames_12 hl (by decide) rfl (fun ls hl => ?_)
    refine lv_iconst (v := (0 : Int32)) X.1 X.2.1 dX8_gatherFrames_14 (by decide) ?_
    refine lv_istore (lv' := [(8, .int (0 : Int32)), (7, .int (0 : Int32)), (0, .ref (ad 0)), (1, .int x1), (3, .int x3), (4, .int x4), (5, .int x5), (6, .int x6)]) X.1 X.2.1 dX8_gatherFrames_15 hl (by decide) rfl (fun ls hl => ?_)
    exact wX8_gatherFrames_b17 X M hk6 _ _ _ _ _ _ _ _ _ H locs ls w (lv_sub hl [2, 3, 4, 5, 6, 7, 1, 0] rfl) h
set_option maxRecDepth 100000 in
set_option maxHeartbeats 4000000 in
theorem wX8_gatherFrames_b6 {p : Program} {l : Launch} {e : Env} {s : State} {m : MethodId} {args : Array Value} {below : List Frame} {meth : Method} {c : Code} {D : va_G} {ca : Nat → ClassId} {ad : Nat → Nat} {cap : Nat}  {mem' : Mm} {r : Unit} (X : CallFix p m c cX8_gatherFrames 9 s args TT RX8) (M : Mt meth none)  : ∀ (n : Nat) (mem : Mm) (x1 : Int32) (x3 : Int32) (x4 : Int32) (x5 : Int32) (x6 : Int32) (H : Heap) (locs : List Loc) (ls : Array Slot)  (_ : Wd D ca ad (layC cap) (AA ad (layC cap).length) s.heap s mem H locs) (_ : lv_has ls 9 [(0, .ref (ad 0)), (1, .int x1), (3, .int x3), (4, .int x4), (5, .int x5), (6, .int x6)]) (_ : fX8_gatherFrames_b6  n mem x1 x3 x4 x5 x6 = some (mem', r)), W p l e (rmx 4 88) s m args below meth c H locs 0 0 (EndV D ca ad (layC cap) mem' below args s) (F0 m 6 ls []) := by
  intro n
  induction n with
  | zero => intro mem x1 x3 x4 x5 x6 H locs ls  w hl h; exact (nofun : (none : Option (Mm × Unit)) = _ → _) h
  | succ n ih => intro mem x1 x3 x4 x5 x6 H locs ls  w hl h; exact wX8_gatherFrames_b6_s X M  ih  w hl h
def fX8_gatherFrames (mem : Mm) (a1 : Int32) (a2 : Int32) (a3 : Int32) (a4 : Int32) : Option (Mm × Unit) :=
  fX8_gatherFrames_b6 2000 mem a1 a3 a4 a2 (2 : Int32)
set_option maxRecDepth 100000 in
set_option maxHeartbeats 4000000 in
theorem kX8_gatherFrames {cap : Nat} (l : Launch) (D : va_G) (ca : Nat → ClassId) (ad : Nat → Nat) (mem : Mm) (a1 : Int32) (a2 : Int32) (a3 : Int32) (a4 : Int32)  {mem' : Mm} {r : Unit} (h : fX8_gatherFrames mem a1 a2 a3 a4 = some (mem', r)) : CtV l yX8_gatherFrames cX8_gatherFrames 9 none (rmx 4 88) D ca ad (layC cap) mem [.ref (ad 0), .int a1, .int a2, .int a3, .int a4] mem' := by
  refine CtV.of (by decide) (Nat.le_of_ble_eq_true rfl) ?_
  intro p e s m args below meth c H locs ls X M w hl
  replace X : CallFix p m c cX8_gatherFrames 9 s args TT RX8 := X
  replace hl : lv_has ls 9 [(0, .ref (ad 0)), (1, .int a1), (2, .int a2), (3, .int a3), (4, .int a4)] := hl
  unfold fX8_gatherFrames at h
  refine lv_iload_n X.1 X.2.1 dX8_gatherFrames_0 rfl (lv_at hl 2 rfl) ?_
  refine lv_istore (lv' := [(5, .int a2), (0, .ref (ad 0)), (1, .int a1), (2, .int a2), (3, .int a3), (4, .int a4)]) X.1 X.2.1 dX8_gatherFrames_1 hl (by decide) rfl (fun ls hl => ?_)
  refine lv_iconst (v := (2 : Int32)) X.1 X.2.1 dX8_gatherFrames_3 (by decide) ?_
  refine lv_istore (lv' := [(6, .int (2 : Int32)), (5, .int a2), (0, .ref (ad 0)), (1, .int a1), (2, .int a2), (3, .int a3), (4, .int a4)]) X.1 X.2.1 dX8_gatherFrames_4 hl (by decide) rfl (fun ls hl => ?_)
  exact wX8_gatherFrames_b6 X M _ _ _ _ _ _ _ H locs ls w (lv_sub hl [2, 3, 5, 6, 1, 0] rfl) h
/-! WalkHouse.gatherPermitted(II)V (W) -/
theorem hdX8_gatherPermitted : yX8_gatherPermitted.cls = RX8 ∧ yX8_gatherPermitted.cls ≠ "java/lang/invoke/MethodHandle" ∧ yX8_gatherPermitted.cls ≠ "java/lang/invoke/VarHandle" ∧ (parseMethodDescriptor yX8_gatherPermitted.desc).map (fun d => d.parameters.length) = some 2 := by decide +kernel
def fX8_gatherPermitted_b36_s (cap : Nat)  (k36 : Mm → Int32 → Int32 → Int32 → Option (Mm × Unit)) (mem : Mm) (x2 : Int32) (x4 : Int32) (x5 : Int32) : Option (Mm × Unit) :=
  if (6 : Int32) ≤ x5 then bw (fX8_gatherFrames mem x2 x4 (mem 40 1) (1 : Int32)) (fun m3 r2 => some (m3, ())) else bd (fX8_rootsSince mem x5 (mem 40 1)) (fun r4 => lk (x4 ||| r4) (fun x_5 => k36 mem x2 x_5 (x5 + (1 : Int32))))
def fX8_gatherPermitted_b36 (cap : Nat)  : Nat → Mm → Int32 → Int32 → Int32 → Option (Mm × Unit)
  | 0 => fun _ _ _ _ => none
  | n + 1 => fX8_gatherPermitted_b36_s cap  (fX8_gatherPermitted_b36 cap  n)
set_option maxRecDepth 100000 in
set_option maxHeartbeats 4000000 in
theorem wX8_gatherPermitted_b36_s {p : Program} {l : Launch} {e : Env} {s : State} {m : MethodId} {args : Array Value} {below : List Frame} {meth : Method} {c : Code} {D : va_G} {ca : Nat → ClassId} {ad : Nat → Nat} {cap : Nat} {H : Heap} {locs : List Loc} {ls : Array Slot} {mem : Mm} {x2 : Int32} {x4 : Int32} {x5 : Int32}  {k36 : Mm → Int32 → Int32 → Int32 → Option (Mm × Unit)} {mem' : Mm} {r : Unit} (X : CallFix p m c cX8_gatherPermitted 6 s args TT RX8) (M : Mt meth none)  (hk36 : ∀ (mem : Mm) (x2 : Int32) (x4 : Int32) (x5 : Int32) (H : Heap) (locs : List Loc) (ls : Array Slot) , Wd D ca ad (layC cap) (AA ad (layC cap).length) s.heap s mem H locs → lv_has ls 6 [(0, .ref (ad 0)), (2, .int x2), (4, .int x4), (5, .int x5)] → k36 mem x2 x4 x5 = some (mem', r) → W p l e (rmx 5 116) s m args below meth c H locs 0 0 (EndV D ca ad (layC cap) mem' below args s) (F0 m 36 ls []))  (w : Wd D ca ad (layC cap) (AA ad (layC cap).length) s.heap s mem H locs) (hl : lv_has ls 6 [(0, .ref (ad 0)), (2, .int x2), (4, .int x4), (5, .int x5)]) (h : fX8_gatherPermitted_b36_s cap  k36 mem x2 x4 x5 = some (mem', r)) : W p l e (rmx 5 116) s m args below meth c H locs 0 0 (EndV D ca ad (layC cap) mem' below args s) (F0 m 36 ls []) := by
  unfold fX8_gatherPermitted_b36_s at h
  refine lv_iload X.1 X.2.1 dX8_gatherPermitted_36 (lv_at hl 3 rfl) ?_
  refine lv_bipush (v := (6 : Int32)) X.1 X.2.1 dX8_gatherPermitted_38 (by decide) ?_
  refine lv_icmp_ge (tgt := 67) X.1 X.2.1 dX8_gatherPermitted_40 (by decide) (fun c1 => ?_) (fun c1 => ?_)
  · rw [if_pos c1] at h
    refine lv_aload_n X.1 X.2.1 dX8_gatherPermitted_67 rfl (lv_at hl 0 rfl) ?_
    refine lv_iload_n X.1 X.2.1 dX8_gatherPermitted_68 rfl (lv_at hl 1 rfl) ?_
    refine lv_iload X.1 X.2.1 dX8_gatherPermitted_69 (lv_at hl 2 rfl) ?_
    refine lv_aload_n X.1 X.2.1 dX8_gatherPermitted_71 rfl (lv_at hl 0 rfl) ?_
    refine r_getr (b2 := 40) X w lyC_0 rfl inT8 9 rfl rfl (by decide) rfl tw_321 dX8_gatherPermitted_72 ?_
    refine r_get X w lyC_40 rfl inT1 1 rfl (by decide) rfl tw_287 dX8_gatherPermitted_75 ?_
    refine lv_iconst (v := (1 : Int32)) X.1 X.2.1 dX8_gatherPermitted_78 (by decide) ?_
    obtain ⟨m3, r2, hr2, h⟩ := bw_some h
    refine r_cVv (As := [.int x2, .int x4, .int (mem 40 1), .int (1 : Int32)]) (rest := []) X w lyC_0 rfl (kX8_gatherFrames (cap := cap) l D ca ad mem x2 x4 (mem 40 1) (1 : Int32)  hr2) (gTV tw_723 tw_725 tw_17 tw_65 tw_726) hdX8_gatherFrames (by decide) rfl hl.1 rfl (Nat.le_of_ble_eq_true rfl) dX8_gatherPermitted_79 ⟨Nat.zero_le _, Nat.zero_le _⟩ (fun H locs w => ?_)
    obtain ⟨rfl, -⟩ := Prod.mk.inj (Option.some.inj h)
    exact r_vret X M w dX8_gatherPermitted_82
  · rw [if_neg c1] at h
    refine lv_iload X.1 X.2.1 dX8_gatherPermitted_43 (lv_at hl 2 rfl) ?_
    refine lv_aload_n X.1 X.2.1 dX8_gatherPermitted_45 rfl (lv_at hl 0 rfl) ?_
    refine lv_iload X.1 X.2.1 dX8_gatherPermitted_46 (lv_at hl 3 rfl) ?_
    refine lv_aload_n X.1 X.2.1 dX8_gatherPermitted_48 rfl (lv_at hl 0 rfl) ?_
    refine r_getr (b2 := 40) X w lyC_0 rfl inT8 9 rfl rfl (by decide) rfl tw_321 dX8_gatherPermitted_49 ?_
    refine r_get X w lyC_40 rfl inT1 1 rfl (by decide) rfl tw_287 dX8_gatherPermitted_52 ?_
    obtain ⟨r4, hr4, h⟩ := bd_some h
    refine r_cVi (As := [.int x5, .int (mem 40 1)]) (rest := [.int x4]) X w lyC_0 rfl (kX8_rootsSince (cap := cap) l D ca ad mem x5 (mem 40 1)  hr4) (gTV tw_698 tw_700 tw_16 tw_65 tw_701) hdX8_rootsSince (by decide) rfl hl.1 rfl (Nat.le_of_ble_eq_true rfl) dX8_gatherPermitted_55 ⟨Nat.zero_le _, Nat.zero_le _⟩ (fun H locs w => ?_)
    refine lv_ior X.1 X.2.1 dX8_gatherPermitted_58 ?_
    obtain ⟨x_5, ex_5, h⟩ := lk_some h
    refine lv_name ex_5 ?_
    refine lv_istore (lv' := [(4, .int x_5), (0, .ref (ad 0)), (2, .int x2), (5, .int x5)]) X.1 X.2.1 dX8_gatherPermitted_59 hl (by decide) rfl (fun ls hl => ?_)
    refine lv_iinc (v := (x5 + (1 : Int32))) (lv' := [(5, .int (x5 + (1 : Int32))), (4, .int x_5), (0, .ref (ad 0)), (2, .int x2)]) X.1 X.2.1 dX8_gatherPermitted_61 hl (k := 3) rfl rfl (by decide) rfl (fun ls hl => ?_)
    refine lv_goto (tgt := 36) X.1 X.2.1 dX8_gatherPermitted_64 (by decide) ?_
    exact hk36 _ _ _ _ H locs ls w (lv_sub hl [2, 3, 1, 0] rfl) h
set_option maxRecDepth 100000 in
set_option maxHeartbeats 4000000 in
theorem wX8_gatherPermitted_b36 {p : Program} {l : Launch} {e : Env} {s : State} {m : MethodId} {args : Array Value} {below : List Frame} {meth : Method} {c : Code} {D : va_G} {ca : Nat → ClassId} {ad : Nat → Nat} {cap : Nat}  {mem' : Mm} {r : Unit} (X : CallFix p m c cX8_gatherPermitted 6 s args TT RX8) (M : Mt meth none)  : ∀ (n : Nat) (mem : Mm) (x2 : Int32) (x4 : Int32) (x5 : Int32) (H : Heap) (locs : List Loc) (ls : Array Slot)  (_ : Wd D ca ad (layC cap) (AA ad (layC cap).length) s.heap s mem H locs) (_ : lv_has ls 6 [(0, .ref (ad 0)), (2, .int x2), (4, .int x4), (5, .int x5)]) (_ : fX8_gatherPermitted_b36 cap  n mem x2 x4 x5 = some (mem', r)), W p l e (rmx 5 116) s m args below meth c H locs 0 0 (EndV D ca ad (layC cap) mem' below args s) (F0 m 36 ls []) := by
  intro n
  induction n with
  | zero => intro mem x2 x4 x5 H locs ls  w hl h; exact (nofun : (none : Option (Mm × Unit)) = _ → _) h
  | succ n ih => intro mem x2 x4 x5 H locs ls  w hl h; exact wX8_gatherPermitted_b36_s X M  ih  w hl h
def fX8_gatherPermitted (cap : Nat) (mem : Mm) (a1 : Int32) (a2 : Int32) : Option (Mm × Unit) :=
  bw (fX2_clear mem) (fun m2 r1 => bd (fX1_latest cap m2 a1 a2) (fun r3 => bd (fX8_rootsSince m2 a1 r3) (fun r4 => bw (fX8_gatherFrames m2 a2 r4 r3 (0 : Int32)) (fun m6 r5 => fX8_gatherPermitted_b36 cap 2000 m6 a2 (0 : Int32) (0 : Int32)))))
set_option maxRecDepth 100000 in
set_option maxHeartbeats 4000000 in
theorem kX8_gatherPermitted {cap : Nat} (l : Launch) (D : va_G) (ca : Nat → ClassId) (ad : Nat → Nat) (mem : Mm) (a1 : Int32) (a2 : Int32)  {mem' : Mm} {r : Unit} (h : fX8_gatherPermitted cap mem a1 a2 = some (mem', r)) : CtV l yX8_gatherPermitted cX8_gatherPermitted 6 none (rmx 5 116) D ca ad (layC cap) mem [.ref (ad 0), .int a1, .int a2] mem' := by
  refine CtV.of (by decide) (Nat.le_of_ble_eq_true rfl) ?_
  intro p e s m args below meth c H locs ls X M w hl
  replace X : CallFix p m c cX8_gatherPermitted 6 s args TT RX8 := X
  replace hl : lv_has ls 6 [(0, .ref (ad 0)), (1, .int a1), (2, .int a2)] := hl
  unfold fX8_gatherPermitted at h
  refine lv_aload_n X.1 X.2.1 dX8_gatherPermitted_0 rfl (lv_at hl 0 rfl) ?_
  refine r_getr (b2 := 44) X w lyC_0 rfl inT8 10 rfl rfl (by decide) rfl tw_322 dX8_gatherPermitted_1 ?_
  obtain ⟨m2, r1, hr1, h⟩ := bw_some h
  refine r_cVv (As := []) (rest := []) X w lyC_44 rfl (kX2_clear (cap := cap) l D ca ad mem   hr1) (gTV tw_686 tw_687 tw_688 tw_74 tw_689) hdX2_clear (by decide) rfl hl.1 rfl (Nat.le_of_ble_eq_true rfl) dX8_gatherPermitted_4 ⟨Nat.zero_le _, Nat.zero_le _⟩ (fun H locs w => ?_)
  refine lv_aload_n X.1 X.2.1 dX8_gatherPermitted_7 rfl (lv_at hl 0 rfl) ?_
  refine r_getr (b2 := 40) X w lyC_0 rfl inT8 9 rfl rfl (by decide) rfl tw_321 dX8_gatherPermitted_8 ?_
  refine lv_iload_n X.1 X.2.1 dX8_gatherPermitted_11 rfl (lv_at hl 1 rfl) ?_
  refine lv_iload_n X.1 X.2.1 dX8_gatherPermitted_12 rfl (lv_at hl 2 rfl) ?_
  obtain ⟨r3, hr3, h⟩ := bd_some h
  refine r_cVi (As := [.int a1, .int a2]) (rest := []) X w lyC_40 rfl (kX1_latest (cap := cap) l D ca ad m2 a1 a2  hr3) (gTV tw_691 tw_692 tw_693 tw_73 tw_694) hdX1_latest (by decide) rfl hl.1 rfl (Nat.le_of_ble_eq_true rfl) dX8_gatherPermitted_13 ⟨Nat.zero_le _, Nat.zero_le _⟩ (fun H locs w => ?_)
  refine lv_istore_n (lv' := [(3, .int r3), (0, .ref (ad 0)), (1, .int a1), (2, .int a2)]) X.1 X.2.1 dX8_gatherPermitted_16 rfl hl (by decide) rfl (fun ls hl => ?_)
  refine lv_aload_n X.1 X.2.1 dX8_gatherPermitted_17 rfl (lv_at hl 1 rfl) ?_
  refine lv_iload_n X.1 X.2.1 dX8_gatherPermitted_18 rfl (lv_at hl 3 rfl) ?_
  refine lv_aload_n X.1 X.2.1 dX8_gatherPermitted_19 rfl (lv_at hl 1 rfl) ?_
  refine lv_iload_n X.1 X.2.1 dX8_gatherPermitted_20 rfl (lv_at hl 2 rfl) ?_
  refine lv_iload_n X.1 X.2.1 dX8_gatherPermitted_21 rfl (lv_at hl 0 rfl) ?_
  obtain ⟨r4, hr4, h⟩ := bd_some h
  refine r_cVi (As := [.int a1, .int r3]) (rest := [.int a2, .ref (ad 0)]) X w lyC_0 rfl (kX8_rootsSince (cap := cap) l D ca ad m2 a1 r3  hr4) (gTV tw_698 tw_700 tw_16 tw_65 tw_701) hdX8_rootsSince (by decide) rfl hl.1 rfl (Nat.le_of_ble_eq_true rfl) dX8_gatherPermitted_22 ⟨Nat.zero_le _, Nat.zero_le _⟩ (fun H locs w => ?_)
  refine lv_iload_n X.1 X.2.1 dX8_gatherPermitted_25 rfl (lv_at hl 0 rfl) ?_
  refine lv_iconst (v := (0 : Int32)) X.1 X.2.1 dX8_gatherPermitted_26 (by decide) ?_
  obtain ⟨m6, r5, hr5, h⟩ := bw_some h
  refine r_cVv (As := [.int a2, .int r4, .int r3, .int (0 : Int32)]) (rest := []) X w lyC_0 rfl (kX8_gatherFrames (cap := cap) l D ca ad m2 a2 r4 r3 (0 : Int32)  hr5) (gTV tw_723 tw_725 tw_17 tw_65 tw_726) hdX8_gatherFrames (by decide) rfl hl.1 rfl (Nat.le_of_ble_eq_true rfl) dX8_gatherPermitted_27 ⟨Nat.zero_le _, Nat.zero_le _⟩ (fun H locs w => ?_)
  refine lv_iconst (v := (0 : Int32)) X.1 X.2.1 dX8_gatherPermitted_30 (by decide) ?_
  refine lv_istore (lv' := [(4, .int (0 : Int32)), (3, .int r3), (0, .ref (ad 0)), (1, .int a1), (2, .int a2)]) X.1 X.2.1 dX8_gatherPermitted_31 hl (by decide) rfl (fun ls hl => ?_)
  refine lv_iconst (v := (0 : Int32)) X.1 X.2.1 dX8_gatherPermitted_33 (by decide) ?_
  refine lv_istore (lv' := [(5, .int (0 : Int32)), (4, .int (0 : Int32)), (3, .int r3), (0, .ref (ad 0)), (1, .int a1), (2, .int a2)]) X.1 X.2.1 dX8_gatherPermitted_34 hl (by decide) rfl (fun ls hl => ?_)
  exact wX8_gatherPermitted_b36 X M _ _ _ _ _ H locs ls w (lv_sub hl [3, 5, 1, 0] rfl) h
/-! WalkHouse.permitted(III)Z (W) -/
theorem hdX8_permitted : yX8_permitted.cls = RX8 ∧ yX8_permitted.cls ≠ "java/lang/invoke/MethodHandle" ∧ yX8_permitted.cls ≠ "java/lang/invoke/VarHandle" ∧ (parseMethodDescriptor yX8_permitted.desc).map (fun d => d.parameters.length) = some 3 := by decide +kernel
def fX8_permitted (cap : Nat) (mem : Mm) (a1 : Int32) (a2 : Int32) (a3 : Int32) : Option (Mm × Int32) :=
  if (fX8_isSpace a1) = 0 then some (mem, (0 : Int32)) else if (fX8_isAddress a2) = 0 then some (mem, (0 : Int32)) else bw (fX8_gatherPermitted cap mem a1 a2) (fun m4 r3 => bd (fX2_has m4 a3) (fun r5 => gz r5 (some (m4, r5))))
set_option maxRecDepth 100000 in
set_option maxHeartbeats 4000000 in
theorem kX8_permitted {cap : Nat} (l : Launch) (D : va_G) (ca : Nat → ClassId) (ad : Nat → Nat) (mem : Mm) (a1 : Int32) (a2 : Int32) (a3 : Int32)  {mem' : Mm} {r : Int32} (h : fX8_permitted cap mem a1 a2 a3 = some (mem', r)) : CtI l yX8_permitted cX8_permitted 4 (some .boolean) (rmx 6 141) D ca ad (layC cap) mem [.ref (ad 0), .int a1, .int a2, .int a3] mem' r := by
  refine CtI.of (by decide) (Nat.le_of_ble_eq_true rfl) ?_
  intro p e s m args below meth c H locs ls X M w hl
  replace X : CallFix p m c cX8_permitted 4 s args TT RX8 := X
  replace hl : lv_has ls 4 [(0, .ref (ad 0)), (1, .int a1), (2, .int a2), (3, .int a3)] := hl
  unfold fX8_permitted at h
  refine lv_iload_n X.1 X.2.1 dX8_permitted_0 rfl (lv_at hl 1 rfl) ?_
  refine r_cSi (As := [.int a1]) (rest := []) X w (kX8_isSpace (cap := cap) l D ca ad mem a1  rfl) (gTS tw_392 tw_393 tw_65 tw_394) hdX8_isSpace (by decide) rfl hl.1 rfl (Nat.le_of_ble_eq_true rfl) dX8_permitted_1 ⟨Nat.zero_le _, Nat.zero_le _⟩ (fun H locs w => ?_)
  refine lv_if_eq (tgt := 14) X.1 X.2.1 dX8_permitted_4 (by decide) (fun c1 => ?_) (fun c1 => ?_)
  · rw [if_pos c1] at h
    refine lv_iconst (v := (0 : Int32)) X.1 X.2.1 dX8_permitted_14 (by decide) ?_
    obtain ⟨rfl, rfl⟩ := Prod.mk.inj (Option.some.inj h)
    exact r_zret X M w (by decide) dX8_permitted_15
  · rw [if_neg c1] at h
    refine lv_iload_n X.1 X.2.1 dX8_permitted_7 rfl (lv_at hl 2 rfl) ?_
    refine r_cSi (As := [.int a2]) (rest := []) X w (kX8_isAddress (cap := cap) l D ca ad mem a2  rfl) (gTS tw_446 tw_447 tw_65 tw_448) hdX8_isAddress (by decide) rfl hl.1 rfl (Nat.le_of_ble_eq_true rfl) dX8_permitted_8 ⟨Nat.zero_le _, Nat.zero_le _⟩ (fun H locs w => ?_)
    refine lv_if_ne (tgt := 16) X.1 X.2.1 dX8_permitted_11 (by decide) (fun c2 => ?_) (fun c2 => ?_)
    · rw [if_neg c2] at h
      refine lv_aload_n X.1 X.2.1 dX8_permitted_16 rfl (lv_at hl 0 rfl) ?_
      refine lv_iload_n X.1 X.2.1 dX8_permitted_17 rfl (lv_at hl 1 rfl) ?_
      refine lv_iload_n X.1 X.2.1 dX8_permitted_18 rfl (lv_at hl 2 rfl) ?_
      obtain ⟨m4, r3, hr3, h⟩ := bw_some h
      refine r_cVv (As := [.int a1, .int a2]) (rest := []) X w lyC_0 rfl (kX8_gatherPermitted (cap := cap) l D ca ad mem a1 a2  hr3) (gTV tw_682 tw_684 tw_15 tw_65 tw_685) hdX8_gatherPermitted (by decide) rfl hl.1 rfl (Nat.le_of_ble_eq_true rfl) dX8_permitted_19 ⟨Nat.zero_le _, Nat.zero_le _⟩ (fun H locs w => ?_)
      refine lv_aload_n X.1 X.2.1 dX8_permitted_22 rfl (lv_at hl 0 rfl) ?_
      refine r_getr (b2 := 44) X w lyC_0 rfl inT8 10 rfl rfl (by decide) rfl tw_322 dX8_permitted_23 ?_
      refine lv_iload_n X.1 X.2.1 dX8_permitted_26 rfl (lv_at hl 3 rfl) ?_
      obtain ⟨r5, hr5, h⟩ := bd_some h
      refine r_cVi (As := [.int a3]) (rest := []) X w lyC_44 rfl (kX2_has (cap := cap) l D ca ad m4 a3  hr5) (gTV tw_739 tw_740 tw_741 tw_74 tw_742) hdX2_has (by decide) rfl hl.1 rfl (Nat.le_of_ble_eq_true rfl) dX8_permitted_27 ⟨Nat.zero_le _, Nat.zero_le _⟩ (fun H locs w => ?_)
      obtain ⟨hz, h⟩ := gz_some h
      obtain ⟨rfl, rfl⟩ := Prod.mk.inj (Option.some.inj h)
      exact r_zret X M w hz dX8_permitted_30
    · rw [if_pos c2] at h
      refine lv_iconst (v := (0 : Int32)) X.1 X.2.1 dX8_permitted_14 (by decide) ?_
      obtain ⟨rfl, rfl⟩ := Prod.mk.inj (Option.some.inj h)
      exact r_zret X M w (by decide) dX8_permitted_15
/-! WalkHouse.many(II)I (W) -/
theorem hdX8_many : yX8_many.cls = RX8 ∧ yX8_many.cls ≠ "java/lang/invoke/MethodHandle" ∧ yX8_many.cls ≠ "java/lang/invoke/VarHandle" ∧ (parseMethodDescriptor yX8_many.desc).map (fun d => d.parameters.length) = some 2 := by decide +kernel
def fX8_many (cap : Nat) (mem : Mm) (a1 : Int32) (a2 : Int32) : Option (Mm × Int32) :=
  if (fX8_isSpace a1) = 0 then some (mem, (-1 : Int32)) else if (fX8_isAddress a2) = 0 then some (mem, (-1 : Int32)) else bw (fX8_gatherPermitted cap mem a1 a2) (fun m4 r3 => bd (fX2_size m4) (fun r5 => some (m4, r5)))
set_option maxRecDepth 100000 in
set_option maxHeartbeats 4000000 in
theorem kX8_many {cap : Nat} (l : Launch) (D : va_G) (ca : Nat → ClassId) (ad : Nat → Nat) (mem : Mm) (a1 : Int32) (a2 : Int32)  {mem' : Mm} {r : Int32} (h : fX8_many cap mem a1 a2 = some (mem', r)) : CtI l yX8_many cX8_many 3 (some .int) (rmx 6 141) D ca ad (layC cap) mem [.ref (ad 0), .int a1, .int a2] mem' r := by
  refine CtI.of (by decide) (Nat.le_of_ble_eq_true rfl) ?_
  intro p e s m args below meth c H locs ls X M w hl
  replace X : CallFix p m c cX8_many 3 s args TT RX8 := X
  replace hl : lv_has ls 3 [(0, .ref (ad 0)), (1, .int a1), (2, .int a2)] := hl
  unfold fX8_many at h
  refine lv_iload_n X.1 X.2.1 dX8_many_0 rfl (lv_at hl 1 rfl) ?_
  refine r_cSi (As := [.int a1]) (rest := []) X w (kX8_isSpace (cap := cap) l D ca ad mem a1  rfl) (gTS tw_392 tw_393 tw_65 tw_394) hdX8_isSpace (by decide) rfl hl.1 rfl (Nat.le_of_ble_eq_true rfl) dX8_many_1 ⟨Nat.zero_le _, Nat.zero_le _⟩ (fun H locs w => ?_)
  refine lv_if_eq (tgt := 14) X.1 X.2.1 dX8_many_4 (by decide) (fun c1 => ?_) (fun c1 => ?_)
  · rw [if_pos c1] at h
    refine lv_iconst (v := (-1 : Int32)) X.1 X.2.1 dX8_many_14 (by decide) ?_
    obtain ⟨rfl, rfl⟩ := Prod.mk.inj (Option.some.inj h)
    exact r_iret X M w dX8_many_15
  · rw [if_neg c1] at h
    refine lv_iload_n X.1 X.2.1 dX8_many_7 rfl (lv_at hl 2 rfl) ?_
    refine r_cSi (As := [.int a2]) (rest := []) X w (kX8_isAddress (cap := cap) l D ca ad mem a2  rfl) (gTS tw_446 tw_447 tw_65 tw_448) hdX8_isAddress (by decide) rfl hl.1 rfl (Nat.le_of_ble_eq_true rfl) dX8_many_8 ⟨Nat.zero_le _, Nat.zero_le _⟩ (fun H locs w => ?_)
    refine lv_if_ne (tgt := 16) X.1 X.2.1 dX8_many_11 (by decide) (fun c2 => ?_) (fun c2 => ?_)
    · rw [if_neg c2] at h
      refine lv_aload_n X.1 X.2.1 dX8_many_16 rfl (lv_at hl 0 rfl) ?_
      refine lv_iload_n X.1 X.2.1 dX8_many_17 rfl (lv_at hl 1 rfl) ?_
      refine lv_iload_n X.1 X.2.1 dX8_many_18 rfl (lv_at hl 2 rfl) ?_
      obtain ⟨m4, r3, hr3, h⟩ := bw_some h
      refine r_cVv (As := [.int a1, .int a2]) (rest := []) X w lyC_0 rfl (kX8_gatherPermitted (cap := cap) l D ca ad mem a1 a2  hr3) (gTV tw_682 tw_684 tw_15 tw_65 tw_685) hdX8_gatherPermitted (by decide) rfl hl.1 rfl (Nat.le_of_ble_eq_true rfl) dX8_many_19 ⟨Nat.zero_le _, Nat.zero_le _⟩ (fun H locs w => ?_)
      refine lv_aload_n X.1 X.2.1 dX8_many_22 rfl (lv_at hl 0 rfl) ?_
      refine r_getr (b2 := 44) X w lyC_0 rfl inT8 10 rfl rfl (by decide) rfl tw_322 dX8_many_23 ?_
      obtain ⟨r5, hr5, h⟩ := bd_some h
      refine r_cVi (As := []) (rest := []) X w lyC_44 rfl (kX2_size (cap := cap) l D ca ad m4   hr5) (gTV tw_747 tw_748 tw_749 tw_74 tw_750) hdX2_size (by decide) rfl hl.1 rfl (Nat.le_of_ble_eq_true rfl) dX8_many_26 ⟨Nat.zero_le _, Nat.zero_le _⟩ (fun H locs w => ?_)
      obtain ⟨rfl, rfl⟩ := Prod.mk.inj (Option.some.inj h)
      exact r_iret X M w dX8_many_29
    · rw [if_pos c2] at h
      refine lv_iconst (v := (-1 : Int32)) X.1 X.2.1 dX8_many_14 (by decide) ?_
      obtain ⟨rfl, rfl⟩ := Prod.mk.inj (Option.some.inj h)
      exact r_iret X M w dX8_many_15
/-! WalkHouse.reverse(III)I (W) -/
theorem hdX8_reverse : yX8_reverse.cls = RX8 ∧ yX8_reverse.cls ≠ "java/lang/invoke/MethodHandle" ∧ yX8_reverse.cls ≠ "java/lang/invoke/VarHandle" ∧ (parseMethodDescriptor yX8_reverse.desc).map (fun d => d.parameters.length) = some 3 := by decide +kernel
def fX8_reverse_b20_s  (k20 : Mm → Int32 → Int32 → Int32 → Int32 → Int32 → Option (Mm × Int32)) (mem : Mm) (x1 : Int32) (x2 : Int32) (x3 : Int32) (x4 : Int32) (x5 : Int32) : Option (Mm × Int32) :=
  if (512 : Int32) ≤ x5 then if x3 = (-1 : Int32) then some (mem, x4) else some (mem, (-1 : Int32)) else bw (fX8_trace mem x1 x5) (fun m4 r3 => if (m4 34 2) = 0 then bd (fX7_frameAt m4 x5) (fun r6 => if r6 = x2 then if x4 = x3 then some (m4, x5) else k20 m4 x1 x2 x3 (x4 + (1 : Int32)) (x5 + (1 : Int32)) else k20 m4 x1 x2 x3 x4 (x5 + (1 : Int32))) else k20 m4 x1 x2 x3 x4 (x5 + (1 : Int32)))
def fX8_reverse_b20  : Nat → Mm → Int32 → Int32 → Int32 → Int32 → Int32 → Option (Mm × Int32)
  | 0 => fun _ _ _ _ _ _ => none
  | n + 1 => fX8_reverse_b20_s  (fX8_reverse_b20  n)
set_option maxRecDepth 100000 in
set_option maxHeartbeats 4000000 in
theorem wX8_reverse_b20_s {p : Program} {l : Launch} {e : Env} {s : State} {m : MethodId} {args : Array Value} {below : List Frame} {meth : Method} {c : Code} {D : va_G} {ca : Nat → ClassId} {ad : Nat → Nat} {cap : Nat} {H : Heap} {locs : List Loc} {ls : Array Slot} {mem : Mm} {x1 : Int32} {x2 : Int32} {x3 : Int32} {x4 : Int32} {x5 : Int32}  {k20 : Mm → Int32 → Int32 → Int32 → Int32 → Int32 → Option (Mm × Int32)} {mem' : Mm} {r : Int32} (X : CallFix p m c cX8_reverse 6 s args TT RX8) (M : Mt meth (some .int))  (hk20 : ∀ (mem : Mm) (x1 : Int32) (x2 : Int32) (x3 : Int32) (x4 : Int32) (x5 : Int32) (H : Heap) (locs : List Loc) (ls : Array Slot) , Wd D ca ad (layC cap) (AA ad (layC cap).length) s.heap s mem H locs → lv_has ls 6 [(0, .ref (ad 0)), (1, .int x1), (2, .int x2), (3, .int x3), (4, .int x4), (5, .int x5)] → k20 mem x1 x2 x3 x4 x5 = some (mem', r) → W p l e (rmx 3 70) s m args below meth c H locs 0 0 (EndI D ca ad (layC cap) mem' r below args s) (F0 m 20 ls []))  (w : Wd D ca ad (layC cap) (AA ad (layC cap).length) s.heap s mem H locs) (hl : lv_has ls 6 [(0, .ref (ad 0)), (1, .int x1), (2, .int x2), (3, .int x3), (4, .int x4), (5, .int x5)]) (h : fX8_reverse_b20_s  k20 mem x1 x2 x3 x4 x5 = some (mem', r)) : W p l e (rmx 3 70) s m args below meth c H locs 0 0 (EndI D ca ad (layC cap) mem' r below args s) (F0 m 20 ls []) := by
  unfold fX8_reverse_b20_s at h
  refine lv_iload X.1 X.2.1 dX8_reverse_20 (lv_at hl 5 rfl) ?_
  refine lv_sipush (v := (512 : Int32)) X.1 X.2.1 dX8_reverse_22 (by decide) ?_
  refine lv_icmp_ge (tgt := 76) X.1 X.2.1 dX8_reverse_25 (by decide) (fun c1 => ?_) (fun c1 => ?_)
  · rw [if_pos c1] at h
    refine lv_iload_n X.1 X.2.1 dX8_reverse_76 rfl (lv_at hl 3 rfl) ?_
    refine lv_iconst (v := (-1 : Int32)) X.1 X.2.1 dX8_reverse_77 (by decide) ?_
    refine lv_icmp_ne (tgt := 86) X.1 X.2.1 dX8_reverse_78 (by decide) (fun c2 => ?_) (fun c2 => ?_)
    · rw [if_neg c2] at h
      refine lv_iconst (v := (-1 : Int32)) X.1 X.2.1 dX8_reverse_86 (by decide) ?_
      obtain ⟨rfl, rfl⟩ := Prod.mk.inj (Option.some.inj h)
      exact r_iret X M w dX8_reverse_87
    · rw [if_pos c2] at h
      refine lv_iload X.1 X.2.1 dX8_reverse_81 (lv_at hl 4 rfl) ?_
      refine lv_goto (tgt := 87) X.1 X.2.1 dX8_reverse_83 (by decide) ?_
      obtain ⟨rfl, rfl⟩ := Prod.mk.inj (Option.some.inj h)
      exact r_iret X M w dX8_reverse_87
  · rw [if_neg c1] at h
    refine lv_aload_n X.1 X.2.1 dX8_reverse_28 rfl (lv_at hl 0 rfl) ?_
    refine lv_iload_n X.1 X.2.1 dX8_reverse_29 rfl (lv_at hl 1 rfl) ?_
    refine lv_iload X.1 X.2.1 dX8_reverse_30 (lv_at hl 5 rfl) ?_
    obtain ⟨m4, r3, hr3, h⟩ := bw_some h
    refine r_cVv (As := [.int x1, .int x5]) (rest := []) X w lyC_0 rfl (kX8_trace (cap := cap) l D ca ad mem x1 x5  hr3) (gTV tw_656 tw_658 tw_14 tw_65 tw_659) hdX8_trace (by decide) rfl hl.1 rfl (Nat.le_of_ble_eq_true rfl) dX8_reverse_32 ⟨Nat.zero_le _, Nat.zero_le _⟩ (fun H locs w => ?_)
    refine lv_aload_n X.1 X.2.1 dX8_reverse_35 rfl (lv_at hl 0 rfl) ?_
    refine r_getr (b2 := 34) X w lyC_0 rfl inT8 7 rfl rfl (by decide) rfl tw_319 dX8_reverse_36 ?_
    refine r_get X w lyC_34 rfl inT7 2 rfl (by decide) rfl tw_241 dX8_reverse_39 ?_
    refine lv_if_ne (tgt := 70) X.1 X.2.1 dX8_reverse_42 (by decide) (fun c5 => ?_) (fun c5 => ?_)
    · rw [if_neg c5] at h
      refine lv_iinc (v := (x5 + (1 : Int32))) (lv' := [(5, .int (x5 + (1 : Int32))), (0, .ref (ad 0)), (1, .int x1), (2, .int x2), (3, .int x3), (4, .int x4)]) X.1 X.2.1 dX8_reverse_70 hl (k := 5) rfl rfl (by decide) rfl (fun ls hl => ?_)
      refine lv_goto (tgt := 20) X.1 X.2.1 dX8_reverse_73 (by decide) ?_
      exact hk20 _ _ _ _ _ _ H locs ls w (lv_sub hl [1, 2, 3, 4, 5, 0] rfl) h
    · rw [if_pos c5] at h
      refine lv_aload_n X.1 X.2.1 dX8_reverse_45 rfl (lv_at hl 0 rfl) ?_
      refine r_getr (b2 := 34) X w lyC_0 rfl inT8 7 rfl rfl (by decide) rfl tw_319 dX8_reverse_46 ?_
      refine lv_iload X.1 X.2.1 dX8_reverse_49 (lv_at hl 5 rfl) ?_
      obtain ⟨r6, hr6, h⟩ := bd_some h
      refine r_cVi (As := [.int x5]) (rest := []) X w lyC_34 rfl (kX7_frameAt (cap := cap) l D ca ad m4 x5  hr6) (gTV tw_669 tw_670 tw_671 tw_71 tw_672) hdX7_frameAt (by decide) rfl hl.1 rfl (Nat.le_of_ble_eq_true rfl) dX8_reverse_51 ⟨Nat.zero_le _, Nat.zero_le _⟩ (fun H locs w => ?_)
      refine lv_iload_n X.1 X.2.1 dX8_reverse_54 rfl (lv_at hl 2 rfl) ?_
      refine lv_icmp_ne (tgt := 70) X.1 X.2.1 dX8_reverse_55 (by decide) (fun c7 => ?_) (fun c7 => ?_)
      · rw [if_neg c7] at h
        refine lv_iinc (v := (x5 + (1 : Int32))) (lv' := [(5, .int (x5 + (1 : Int32))), (0, .ref (ad 0)), (1, .int x1), (2, .int x2), (3, .int x3), (4, .int x4)]) X.1 X.2.1 dX8_reverse_70 hl (k := 5) rfl rfl (by decide) rfl (fun ls hl => ?_)
        refine lv_goto (tgt := 20) X.1 X.2.1 dX8_reverse_73 (by decide) ?_
        exact hk20 _ _ _ _ _ _ H locs ls w (lv_sub hl [1, 2, 3, 4, 5, 0] rfl) h
      · rw [if_pos c7] at h
        refine lv_iload X.1 X.2.1 dX8_reverse_58 (lv_at hl 4 rfl) ?_
        refine lv_iload_n X.1 X.2.1 dX8_reverse_60 rfl (lv_at hl 3 rfl) ?_
        refine lv_icmp_ne (tgt := 67) X.1 X.2.1 dX8_reverse_61 (by decide) (fun c8 => ?_) (fun c8 => ?_)
        · rw [if_neg c8] at h
          refine lv_iinc (v := (x4 + (1 : Int32))) (lv' := [(4, .int (x4 + (1 : Int32))), (0, .ref (ad 0)), (1, .int x1), (2, .int x2), (3, .int x3), (5, .int x5)]) X.1 X.2.1 dX8_reverse_67 hl (k := 4) rfl rfl (by decide) rfl (fun ls hl => ?_)
          refine lv_iinc (v := (x5 + (1 : Int32))) (lv' := [(5, .int (x5 + (1 : Int32))), (4, .int (x4 + (1 : Int32))), (0, .ref (ad 0)), (1, .int x1), (2, .int x2), (3, .int x3)]) X.1 X.2.1 dX8_reverse_70 hl (k := 5) rfl rfl (by decide) rfl (fun ls hl => ?_)
          refine lv_goto (tgt := 20) X.1 X.2.1 dX8_reverse_73 (by decide) ?_
          exact hk20 _ _ _ _ _ _ H locs ls w (lv_sub hl [2, 3, 4, 5, 1, 0] rfl) h
        · rw [if_pos c8] at h
          refine lv_iload X.1 X.2.1 dX8_reverse_64 (lv_at hl 5 rfl) ?_
          obtain ⟨rfl, rfl⟩ := Prod.mk.inj (Option.some.inj h)
          exact r_iret X M w dX8_reverse_66
set_option maxRecDepth 100000 in
set_option maxHeartbeats 4000000 in
theorem wX8_reverse_b20 {p : Program} {l : Launch} {e : Env} {s : State} {m : MethodId} {args : Array Value} {below : List Frame} {meth : Method} {c : Code} {D : va_G} {ca : Nat → ClassId} {ad : Nat → Nat} {cap : Nat}  {mem' : Mm} {r : Int32} (X : CallFix p m c cX8_reverse 6 s args TT RX8) (M : Mt meth (some .int))  : ∀ (n : Nat) (mem : Mm) (x1 : Int32) (x2 : Int32) (x3 : Int32) (x4 : Int32) (x5 : Int32) (H : Heap) (locs : List Loc) (ls : Array Slot)  (_ : Wd D ca ad (layC cap) (AA ad (layC cap).length) s.heap s mem H locs) (_ : lv_has ls 6 [(0, .ref (ad 0)), (1, .int x1), (2, .int x2), (3, .int x3), (4, .int x4), (5, .int x5)]) (_ : fX8_reverse_b20  n mem x1 x2 x3 x4 x5 = some (mem', r)), W p l e (rmx 3 70) s m args below meth c H locs 0 0 (EndI D ca ad (layC cap) mem' r below args s) (F0 m 20 ls []) := by
  intro n
  induction n with
  | zero => intro mem x1 x2 x3 x4 x5 H locs ls  w hl h; exact (nofun : (none : Option (Mm × Int32)) = _ → _) h
  | succ n ih => intro mem x1 x2 x3 x4 x5 H locs ls  w hl h; exact wX8_reverse_b20_s X M  ih  w hl h
def fX8_reverse (mem : Mm) (a1 : Int32) (a2 : Int32) (a3 : Int32) : Option (Mm × Int32) :=
  if (fX8_isSpace a1) = 0 then some (mem, (-1 : Int32)) else if (-1 : Int32) ≤ a3 then fX8_reverse_b20 2000 mem a1 a2 a3 (0 : Int32) (0 : Int32) else some (mem, (-1 : Int32))
set_option maxRecDepth 100000 in
set_option maxHeartbeats 4000000 in
theorem kX8_reverse {cap : Nat} (l : Launch) (D : va_G) (ca : Nat → ClassId) (ad : Nat → Nat) (mem : Mm) (a1 : Int32) (a2 : Int32) (a3 : Int32)  {mem' : Mm} {r : Int32} (h : fX8_reverse mem a1 a2 a3 = some (mem', r)) : CtI l yX8_reverse cX8_reverse 6 (some .int) (rmx 3 70) D ca ad (layC cap) mem [.ref (ad 0), .int a1, .int a2, .int a3] mem' r := by
  refine CtI.of (by decide) (Nat.le_of_ble_eq_true rfl) ?_
  intro p e s m args below meth c H locs ls X M w hl
  replace X : CallFix p m c cX8_reverse 6 s args TT RX8 := X
  replace hl : lv_has ls 6 [(0, .ref (ad 0)), (1, .int a1), (2, .int a2), (3, .int a3)] := hl
  unfold fX8_reverse at h
  refine lv_iload_n X.1 X.2.1 dX8_reverse_0 rfl (lv_at hl 1 rfl) ?_
  refine r_cSi (As := [.int a1]) (rest := []) X w (kX8_isSpace (cap := cap) l D ca ad mem a1  rfl) (gTS tw_392 tw_393 tw_65 tw_394) hdX8_isSpace (by decide) rfl hl.1 rfl (Nat.le_of_ble_eq_true rfl) dX8_reverse_1 ⟨Nat.zero_le _, Nat.zero_le _⟩ (fun H locs w => ?_)
  refine lv_if_eq (tgt := 12) X.1 X.2.1 dX8_reverse_4 (by decide) (fun c1 => ?_) (fun c1 => ?_)
  · rw [if_pos c1] at h
    refine lv_iconst (v := (-1 : Int32)) X.1 X.2.1 dX8_reverse_12 (by decide) ?_
    obtain ⟨rfl, rfl⟩ := Prod.mk.inj (Option.some.inj h)
    exact r_iret X M w dX8_reverse_13
  · rw [if_neg c1] at h
    refine lv_iload_n X.1 X.2.1 dX8_reverse_7 rfl (lv_at hl 3 rfl) ?_
    refine lv_iconst (v := (-1 : Int32)) X.1 X.2.1 dX8_reverse_8 (by decide) ?_
    refine lv_icmp_ge (tgt := 14) X.1 X.2.1 dX8_reverse_9 (by decide) (fun c2 => ?_) (fun c2 => ?_)
    · rw [if_pos c2] at h
      refine lv_iconst (v := (0 : Int32)) X.1 X.2.1 dX8_reverse_14 (by decide) ?_
      refine lv_istore (lv' := [(4, .int (0 : Int32)), (0, .ref (ad 0)), (1, .int a1), (2, .int a2), (3, .int a3)]) X.1 X.2.1 dX8_reverse_15 hl (by decide) rfl (fun ls hl => ?_)
      refine lv_iconst (v := (0 : Int32)) X.1 X.2.1 dX8_reverse_17 (by decide) ?_
      refine lv_istore (lv' := [(5, .int (0 : Int32)), (4, .int (0 : Int32)), (0, .ref (ad 0)), (1, .int a1), (2, .int a2), (3, .int a3)]) X.1 X.2.1 dX8_reverse_18 hl (by decide) rfl (fun ls hl => ?_)
      exact wX8_reverse_b20 X M _ _ _ _ _ _ _ H locs ls w (lv_sub hl [2, 3, 4, 5, 1, 0] rfl) h
    · rw [if_neg c2] at h
      refine lv_iconst (v := (-1 : Int32)) X.1 X.2.1 dX8_reverse_12 (by decide) ?_
      obtain ⟨rfl, rfl⟩ := Prod.mk.inj (Option.some.inj h)
      exact r_iret X M w dX8_reverse_13
/-! WalkHouse.through(III)I (W) -/
theorem hdX8_through : yX8_through.cls = RX8 ∧ yX8_through.cls ≠ "java/lang/invoke/MethodHandle" ∧ yX8_through.cls ≠ "java/lang/invoke/VarHandle" ∧ (parseMethodDescriptor yX8_through.desc).map (fun d => d.parameters.length) = some 3 := by decide +kernel
def fX8_through_b30_s  (k30 : Mm → Int32 → Int32 → Int32 → Int32 → Option (Mm × Int32)) (mem : Mm) (x1 : Int32) (x4 : Int32) (x5 : Int32) (x6 : Int32) : Option (Mm × Int32) :=
  if (512 : Int32) ≤ x6 then some (mem, x5) else bw (fX8_trace mem x1 x6) (fun m3 r2 => bd (fX7_comesBy m3 x4) (fun r4 => if r4 = 0 then k30 m3 x1 x4 x5 (x6 + (1 : Int32)) else k30 m3 x1 x4 (x5 + (1 : Int32)) (x6 + (1 : Int32))))
def fX8_through_b30  : Nat → Mm → Int32 → Int32 → Int32 → Int32 → Option (Mm × Int32)
  | 0 => fun _ _ _ _ _ => none
  | n + 1 => fX8_through_b30_s  (fX8_through_b30  n)
set_option maxRecDepth 100000 in
set_option maxHeartbeats 4000000 in
theorem wX8_through_b30_s {p : Program} {l : Launch} {e : Env} {s : State} {m : MethodId} {args : Array Value} {below : List Frame} {meth : Method} {c : Code} {D : va_G} {ca : Nat → ClassId} {ad : Nat → Nat} {cap : Nat} {H : Heap} {locs : List Loc} {ls : Array Slot} {mem : Mm} {x1 : Int32} {x4 : Int32} {x5 : Int32} {x6 : Int32}  {k30 : Mm → Int32 → Int32 → Int32 → Int32 → Option (Mm × Int32)} {mem' : Mm} {r : Int32} (X : CallFix p m c cX8_through 7 s args TT RX8) (M : Mt meth (some .int))  (hk30 : ∀ (mem : Mm) (x1 : Int32) (x4 : Int32) (x5 : Int32) (x6 : Int32) (H : Heap) (locs : List Loc) (ls : Array Slot) , Wd D ca ad (layC cap) (AA ad (layC cap).length) s.heap s mem H locs → lv_has ls 7 [(0, .ref (ad 0)), (1, .int x1), (4, .int x4), (5, .int x5), (6, .int x6)] → k30 mem x1 x4 x5 x6 = some (mem', r) → W p l e (rmx 3 70) s m args below meth c H locs 0 0 (EndI D ca ad (layC cap) mem' r below args s) (F0 m 30 ls []))  (w : Wd D ca ad (layC cap) (AA ad (layC cap).length) s.heap s mem H locs) (hl : lv_has ls 7 [(0, .ref (ad 0)), (1, .int x1), (4, .int x4), (5, .int x5), (6, .int x6)]) (h : fX8_through_b30_s  k30 mem x1 x4 x5 x6 = some (mem', r)) : W p l e (rmx 3 70) s m args below meth c H locs 0 0 (EndI D ca ad (layC cap) mem' r below args s) (F0 m 30 ls []) := by
  unfold fX8_through_b30_s at h
  refine lv_iload X.1 X.2.1 dX8_through_30 (lv_at hl 4 rfl) ?_
  refine lv_sipush (v := (512 : Int32)) X.1 X.2.1 dX8_through_32 (by decide) ?_
  refine lv_icmp_ge (tgt := 66) X.1 X.2.1 dX8_through_35 (by decide) (fun c1 => ?_) (fun c1 => ?_)
  · rw [if_pos c1] at h
    refine lv_iload X.1 X.2.1 dX8_through_66 (lv_at hl 3 rfl) ?_
    obtain ⟨rfl, rfl⟩ := Prod.mk.inj (Option.some.inj h)
    exact r_iret X M w dX8_through_68
  · rw [if_neg c1] at h
    refine lv_aload_n X.1 X.2.1 dX8_through_38 rfl (lv_at hl 0 rfl) ?_
    refine lv_iload_n X.1 X.2.1 dX8_through_39 rfl (lv_at hl 1 rfl) ?_
    refine lv_iload X.1 X.2.1 dX8_through_40 (lv_at hl 4 rfl) ?_
    obtain ⟨m3, r2, hr2, h⟩ := bw_some h
    refine r_cVv (As := [.int x1, .int x6]) (rest := []) X w lyC_0 rfl (kX8_trace (cap := cap) l D ca ad mem x1 x6  hr2) (gTV tw_656 tw_658 tw_14 tw_65 tw_659) hdX8_trace (by decide) rfl hl.1 rfl (Nat.le_of_ble_eq_true rfl) dX8_through_42 ⟨Nat.zero_le _, Nat.zero_le _⟩ (fun H locs w => ?_)
    refine lv_aload_n X.1 X.2.1 dX8_through_45 rfl (lv_at hl 0 rfl) ?_
    refine r_getr (b2 := 34) X w lyC_0 rfl inT8 7 rfl rfl (by decide) rfl tw_319 dX8_through_46 ?_
    refine lv_iload X.1 X.2.1 dX8_through_49 (lv_at hl 2 rfl) ?_
    obtain ⟨r4, hr4, h⟩ := bd_some h
    refine r_cVi (As := [.int x4]) (rest := []) X w lyC_34 rfl (kX7_comesBy (cap := cap) l D ca ad m3 x4  hr4) (gTV tw_765 tw_766 tw_767 tw_71 tw_768) hdX7_comesBy (by decide) rfl hl.1 rfl (Nat.le_of_ble_eq_true rfl) dX8_through_51 ⟨Nat.zero_le _, Nat.zero_le _⟩ (fun H locs w => ?_)
    refine lv_if_eq (tgt := 60) X.1 X.2.1 dX8_through_54 (by decide) (fun c5 => ?_) (fun c5 => ?_)
    · rw [if_pos c5] at h
      refine lv_iinc (v := (x6 + (1 : Int32))) (lv' := [(6, .int (x6 + (1 : Int32))), (0, .ref (ad 0)), (1, .int x1), (4, .int x4), (5, .int x5)]) X.1 X.2.1 dX8_through_60 hl (k := 4) rfl rfl (by decide) rfl (fun ls hl => ?_)
      refine lv_goto (tgt := 30) X.1 X.2.1 dX8_through_63 (by decide) ?_
      exact hk30 _ _ _ _ _ H locs ls w (lv_sub hl [1, 2, 3, 4, 0] rfl) h
    · rw [if_neg c5] at h
      refine lv_iinc (v := (x5 + (1 : Int32))) (lv' := [(5, .int (x5 + (1 : Int32))), (0, .ref (ad 0)), (1, .int x1), (4, .int x4), (6, .int x6)]) X.1 X.2.1 dX8_through_57 hl (k := 3) rfl rfl (by decide) rfl (fun ls hl => ?_)
      refine lv_iinc (v := (x6 + (1 : Int32))) (lv' := [(6, .int (x6 + (1 : Int32))), (5, .int (x5 + (1 : Int32))), (0, .ref (ad 0)), (1, .int x1), (4, .int x4)]) X.1 X.2.1 dX8_through_60 hl (k := 4) rfl rfl (by decide) rfl (fun ls hl => ?_)
      refine lv_goto (tgt := 30) X.1 X.2.1 dX8_through_63 (by decide) ?_
      exact hk30 _ _ _ _ _ H locs ls w (lv_sub hl [2, 3, 4, 1, 0] rfl) h
set_option maxRecDepth 100000 in
set_option maxHeartbeats 4000000 in
theorem wX8_through_b30 {p : Program} {l : Launch} {e : Env} {s : State} {m : MethodId} {args : Array Value} {below : List Frame} {meth : Method} {c : Code} {D : va_G} {ca : Nat → ClassId} {ad : Nat → Nat} {cap : Nat}  {mem' : Mm} {r : Int32} (X : CallFix p m c cX8_through 7 s args TT RX8) (M : Mt meth (some .int))  : ∀ (n : Nat) (mem : Mm) (x1 : Int32) (x4 : Int32) (x5 : Int32) (x6 : Int32) (H : Heap) (locs : List Loc) (ls : Array Slot)  (_ : Wd D ca ad (layC cap) (AA ad (layC cap).length) s.heap s mem H locs) (_ : lv_has ls 7 [(0, .ref (ad 0)), (1, .int x1), (4, .int x4), (5, .int x5), (6, .int x6)]) (_ : fX8_through_b30  n mem x1 x4 x5 x6 = some (mem', r)), W p l e (rmx 3 70) s m args below meth c H locs 0 0 (EndI D ca ad (layC cap) mem' r below args s) (F0 m 30 ls []) := by
  intro n
  induction n with
  | zero => intro mem x1 x4 x5 x6 H locs ls  w hl h; exact (nofun : (none : Option (Mm × Int32)) = _ → _) h
  | succ n ih => intro mem x1 x4 x5 x6 H locs ls  w hl h; exact wX8_through_b30_s X M  ih  w hl h
def fX8_through (mem : Mm) (a1 : Int32) (a2 : Int32) (a3 : Int32) : Option (Mm × Int32) :=
  if (fX8_isSpace a1) = 0 then some (mem, (-1 : Int32)) else if (fX8_isCell a2 a3) = 0 then some (mem, (-1 : Int32)) else lk (fX8_cellOf a2 a3) (fun x_3 => fX8_through_b30 2000 mem a1 x_3 (0 : Int32) (0 : Int32))
set_option maxRecDepth 100000 in
set_option maxHeartbeats 4000000 in
theorem kX8_through {cap : Nat} (l : Launch) (D : va_G) (ca : Nat → ClassId) (ad : Nat → Nat) (mem : Mm) (a1 : Int32) (a2 : Int32) (a3 : Int32)  {mem' : Mm} {r : Int32} (h : fX8_through mem a1 a2 a3 = some (mem', r)) : CtI l yX8_through cX8_through 7 (some .int) (rmx 3 70) D ca ad (layC cap) mem [.ref (ad 0), .int a1, .int a2, .int a3] mem' r := by
  refine CtI.of (by decide) (Nat.le_of_ble_eq_true rfl) ?_
  intro p e s m args below meth c H locs ls X M w hl
  replace X : CallFix p m c cX8_through 7 s args TT RX8 := X
  replace hl : lv_has ls 7 [(0, .ref (ad 0)), (1, .int a1), (2, .int a2), (3, .int a3)] := hl
  unfold fX8_through at h
  refine lv_iload_n X.1 X.2.1 dX8_through_0 rfl (lv_at hl 1 rfl) ?_
  refine r_cSi (As := [.int a1]) (rest := []) X w (kX8_isSpace (cap := cap) l D ca ad mem a1  rfl) (gTS tw_392 tw_393 tw_65 tw_394) hdX8_isSpace (by decide) rfl hl.1 rfl (Nat.le_of_ble_eq_true rfl) dX8_through_1 ⟨Nat.zero_le _, Nat.zero_le _⟩ (fun H locs w => ?_)
  refine lv_if_eq (tgt := 15) X.1 X.2.1 dX8_through_4 (by decide) (fun c1 => ?_) (fun c1 => ?_)
  · rw [if_pos c1] at h
    refine lv_iconst (v := (-1 : Int32)) X.1 X.2.1 dX8_through_15 (by decide) ?_
    obtain ⟨rfl, rfl⟩ := Prod.mk.inj (Option.some.inj h)
    exact r_iret X M w dX8_through_16
  · rw [if_neg c1] at h
    refine lv_iload_n X.1 X.2.1 dX8_through_7 rfl (lv_at hl 2 rfl) ?_
    refine lv_iload_n X.1 X.2.1 dX8_through_8 rfl (lv_at hl 3 rfl) ?_
    refine r_cSi (As := [.int a2, .int a3]) (rest := []) X w (kX8_isCell (cap := cap) l D ca ad mem a2 a3  rfl) (gTS tw_365 tw_366 tw_65 tw_367) hdX8_isCell (by decide) rfl hl.1 rfl (Nat.le_of_ble_eq_true rfl) dX8_through_9 ⟨Nat.zero_le _, Nat.zero_le _⟩ (fun H locs w => ?_)
    refine lv_if_ne (tgt := 17) X.1 X.2.1 dX8_through_12 (by decide) (fun c2 => ?_) (fun c2 => ?_)
    · rw [if_neg c2] at h
      refine lv_iload_n X.1 X.2.1 dX8_through_17 rfl (lv_at hl 2 rfl) ?_
      refine lv_iload_n X.1 X.2.1 dX8_through_18 rfl (lv_at hl 3 rfl) ?_
      refine r_cSi (As := [.int a2, .int a3]) (rest := []) X w (kX8_cellOf (cap := cap) l D ca ad mem a2 a3  rfl) (gTS tw_371 tw_372 tw_65 tw_373) hdX8_cellOf (by decide) rfl hl.1 rfl (Nat.le_of_ble_eq_true rfl) dX8_through_19 ⟨Nat.zero_le _, Nat.zero_le _⟩ (fun H locs w => ?_)
      obtain ⟨x_3, ex_3, h⟩ := lk_some h
      refine lv_name ex_3 ?_
      refine lv_istore (lv' := [(4, .int x_3), (0, .ref (ad 0)), (1, .int a1), (2, .int a2), (3, .int a3)]) X.1 X.2.1 dX8_through_22 hl (by decide) rfl (fun ls hl => ?_)
      refine lv_iconst (v := (0 : Int32)) X.1 X.2.1 dX8_through_24 (by decide) ?_
      refine lv_istore (lv' := [(5, .int (0 : Int32)), (4, .int x_3), (0, .ref (ad 0)), (1, .int a1), (2, .int a2), (3, .int a3)]) X.1 X.2.1 dX8_through_25 hl (by decide) rfl (fun ls hl => ?_)
      refine lv_iconst (v := (0 : Int32)) X.1 X.2.1 dX8_through_27 (by decide) ?_
      refine lv_istore (lv' := [(6, .int (0 : Int32)), (5, .int (0 : Int32)), (4, .int x_3), (0, .ref (ad 0)), (1, .int a1), (2, .int a2), (3, .int a3)]) X.1 X.2.1 dX8_through_28 hl (by decide) rfl (fun ls hl => ?_)
      exact wX8_through_b30 X M _ _ _ _ _ _ H locs ls w (lv_sub hl [3, 4, 2, 1, 0] rfl) h
    · rw [if_pos c2] at h
      refine lv_iconst (v := (-1 : Int32)) X.1 X.2.1 dX8_through_15 (by decide) ?_
      obtain ⟨rfl, rfl⟩ := Prod.mk.inj (Option.some.inj h)
      exact r_iret X M w dX8_through_16
/-! WalkHouse.space(II)I (R) -/
theorem hdX8_space : yX8_space.cls = RX8 ∧ yX8_space.cls ≠ "java/lang/invoke/MethodHandle" ∧ yX8_space.cls ≠ "java/lang/invoke/VarHandle" ∧ (parseMethodDescriptor yX8_space.desc).map (fun d => d.parameters.length) = some 2 := by decide +kernel
def fX8_space (mem : Mm) (a1 : Int32) (a2 : Int32) : Option Int32 :=
  if (fX8_isSpace a1) = 0 then some (-1 : Int32) else if a2 = (0 : Int32) then gd a1 6 (some (mem 4 a1.toNatClampNeg)) else if a2 = (1 : Int32) then gd a1 6 (some (mem 5 a1.toNatClampNeg)) else if a2 = (2 : Int32) then if (mem 3 4) = a1 then some (1 : Int32) else some (0 : Int32) else some (-1 : Int32)
set_option maxRecDepth 100000 in
set_option maxHeartbeats 4000000 in
theorem kX8_space {cap : Nat} (l : Launch) (D : va_G) (ca : Nat → ClassId) (ad : Nat → Nat) (mem : Mm) (a1 : Int32) (a2 : Int32)  {r : Int32} (h : fX8_space mem a1 a2 = some r) : CtI l yX8_space cX8_space 3 (some .int) (rmx 1 20) D ca ad (layC cap) mem [.ref (ad 0), .int a1, .int a2] mem r := by
  refine CtI.of (by decide) (Nat.le_of_ble_eq_true rfl) ?_
  intro p e s m args below meth c H locs ls X M w hl
  replace X : CallFix p m c cX8_space 3 s args TT RX8 := X
  replace hl : lv_has ls 3 [(0, .ref (ad 0)), (1, .int a1), (2, .int a2)] := hl
  unfold fX8_space at h
  refine lv_iload_n X.1 X.2.1 dX8_space_0 rfl (lv_at hl 1 rfl) ?_
  refine r_cSi (As := [.int a1]) (rest := []) X w (kX8_isSpace (cap := cap) l D ca ad mem a1  rfl) (gTS tw_392 tw_393 tw_65 tw_394) hdX8_isSpace (by decide) rfl hl.1 rfl (Nat.le_of_ble_eq_true rfl) dX8_space_1 ⟨Nat.zero_le _, Nat.zero_le _⟩ (fun H locs w => ?_)
  refine lv_if_ne (tgt := 9) X.1 X.2.1 dX8_space_4 (by decide) (fun c1 => ?_) (fun c1 => ?_)
  · rw [if_neg c1] at h
    refine lv_iload_n X.1 X.2.1 dX8_space_9 rfl (lv_at hl 2 rfl) ?_
    by_cases c2 : a2 = (0 : Int32)
    · rw [if_pos c2] at h
      refine lv_tableIn (tgt := 36) X.1 X.2.1 dX8_space_10 (by rw [c2]; decide) (by rw [c2]; decide) (by rw [c2]; rfl) (by decide) ?_
      refine lv_aload_n X.1 X.2.1 dX8_space_36 rfl (lv_at hl 0 rfl) ?_
      refine r_getr (b2 := 3) X w lyC_0 rfl inT8 2 rfl rfl (by decide) rfl tw_314 dX8_space_37 ?_
      refine r_getr (b2 := 4) X w lyC_3 rfl inT4 0 rfl rfl (by decide) rfl tw_101 dX8_space_40 ?_
      refine lv_iload_n X.1 X.2.1 dX8_space_43 rfl (lv_at hl 1 rfl) ?_
      obtain ⟨hi3, h⟩ := gd_some h
      refine r_iald X w lyC_4 hi3 dX8_space_44 ?_
      obtain rfl := Option.some.inj h
      exact r_iret X M w dX8_space_45
    rw [if_neg c2] at h
    by_cases c4 : a2 = (1 : Int32)
    · rw [if_pos c4] at h
      refine lv_tableIn (tgt := 46) X.1 X.2.1 dX8_space_10 (by rw [c4]; decide) (by rw [c4]; decide) (by rw [c4]; rfl) (by decide) ?_
      refine lv_aload_n X.1 X.2.1 dX8_space_46 rfl (lv_at hl 0 rfl) ?_
      refine r_getr (b2 := 3) X w lyC_0 rfl inT8 2 rfl rfl (by decide) rfl tw_314 dX8_space_47 ?_
      refine r_getr (b2 := 5) X w lyC_3 rfl inT4 1 rfl rfl (by decide) rfl tw_103 dX8_space_50 ?_
      refine lv_iload_n X.1 X.2.1 dX8_space_53 rfl (lv_at hl 1 rfl) ?_
      obtain ⟨hi5, h⟩ := gd_some h
      refine r_iald X w lyC_5 hi5 dX8_space_54 ?_
      obtain rfl := Option.some.inj h
      exact r_iret X M w dX8_space_55
    rw [if_neg c4] at h
    by_cases c6 : a2 = (2 : Int32)
    · rw [if_pos c6] at h
      refine lv_tableIn (tgt := 56) X.1 X.2.1 dX8_space_10 (by rw [c6]; decide) (by rw [c6]; decide) (by rw [c6]; rfl) (by decide) ?_
      refine lv_aload_n X.1 X.2.1 dX8_space_56 rfl (lv_at hl 0 rfl) ?_
      refine r_getr (b2 := 3) X w lyC_0 rfl inT8 2 rfl rfl (by decide) rfl tw_314 dX8_space_57 ?_
      refine r_get X w lyC_3 rfl inT4 4 rfl (by decide) rfl tw_107 dX8_space_60 ?_
      refine lv_iload_n X.1 X.2.1 dX8_space_63 rfl (lv_at hl 1 rfl) ?_
      refine lv_icmp_ne (tgt := 71) X.1 X.2.1 dX8_space_64 (by decide) (fun c7 => ?_) (fun c7 => ?_)
      · rw [if_neg c7] at h
        refine lv_iconst (v := (0 : Int32)) X.1 X.2.1 dX8_space_71 (by decide) ?_
        obtain rfl := Option.some.inj h
        exact r_iret X M w dX8_space_72
      · rw [if_pos c7] at h
        refine lv_iconst (v := (1 : Int32)) X.1 X.2.1 dX8_space_67 (by decide) ?_
        refine lv_goto (tgt := 72) X.1 X.2.1 dX8_space_68 (by decide) ?_
        obtain rfl := Option.some.inj h
        exact r_iret X M w dX8_space_72
    rw [if_neg c6] at h
    refine lv_tableOut (tgt := 73) X.1 X.2.1 dX8_space_10 (sw_out 0 2 [(0 : Int32), (1 : Int32), (2 : Int32)] (fun z h1 h2 => by rcases (show z = 0 ∨ z = 1 ∨ z = 2 by omega) with rfl | rfl | rfl <;> decide) (by simp only [List.mem_cons, List.not_mem_nil, or_false, forall_eq_or_imp, forall_eq]; exact ⟨c2, c4, c6⟩)) (by decide) ?_
    refine lv_iconst (v := (-1 : Int32)) X.1 X.2.1 dX8_space_73 (by decide) ?_
    obtain rfl := Option.some.inj h
    exact r_iret X M w dX8_space_74
  · rw [if_pos c1] at h
    refine lv_iconst (v := (-1 : Int32)) X.1 X.2.1 dX8_space_7 (by decide) ?_
    obtain rfl := Option.some.inj h
    exact r_iret X M w dX8_space_8
/-! WalkHouse.stalePages()I (W) -/
theorem hdX8_stalePages : yX8_stalePages.cls = RX8 ∧ yX8_stalePages.cls ≠ "java/lang/invoke/MethodHandle" ∧ yX8_stalePages.cls ≠ "java/lang/invoke/VarHandle" ∧ (parseMethodDescriptor yX8_stalePages.desc).map (fun d => d.parameters.length) = some 0 := by decide +kernel
def fX8_stalePages_b4_s  (k4 : Mm → Int32 → Int32 → Option (Mm × Int32)) (mem : Mm) (x1 : Int32) (x2 : Int32) : Option (Mm × Int32) :=
  if (6 : Int32) ≤ x2 then some (mem, x1) else gd x2 6 (lkN (8 + 1 + 1 * x2.toNatClampNeg) (fun b3 => if (mem b3 0) = 0 then k4 mem x1 (x2 + (1 : Int32)) else gd x2 6 (lkN (8 + 1 + 1 * x2.toNatClampNeg) (fun b6 => bw (fX8_isStalePage mem b6) (fun m8 r7 => if r7 = 0 then k4 m8 x1 (x2 + (1 : Int32)) else k4 m8 (x1 + (1 : Int32)) (x2 + (1 : Int32)))))))
def fX8_stalePages_b4  : Nat → Mm → Int32 → Int32 → Option (Mm × Int32)
  | 0 => fun _ _ _ => none
  | n + 1 => fX8_stalePages_b4_s  (fX8_stalePages_b4  n)
set_option maxRecDepth 100000 in
set_option maxHeartbeats 4000000 in
theorem wX8_stalePages_b4_s {p : Program} {l : Launch} {e : Env} {s : State} {m : MethodId} {args : Array Value} {below : List Frame} {meth : Method} {c : Code} {D : va_G} {ca : Nat → ClassId} {ad : Nat → Nat} {cap : Nat} {H : Heap} {locs : List Loc} {ls : Array Slot} {mem : Mm} {x1 : Int32} {x2 : Int32}  {k4 : Mm → Int32 → Int32 → Option (Mm × Int32)} {mem' : Mm} {r : Int32} (X : CallFix p m c cX8_stalePages 3 s args TT RX8) (M : Mt meth (some .int))  (hk4 : ∀ (mem : Mm) (x1 : Int32) (x2 : Int32) (H : Heap) (locs : List Loc) (ls : Array Slot) , Wd D ca ad (layC cap) (AA ad (layC cap).length) s.heap s mem H locs → lv_has ls 3 [(0, .ref (ad 0)), (1, .int x1), (2, .int x2)] → k4 mem x1 x2 = some (mem', r) → W p l e (rmx 4 92) s m args below meth c H locs 0 0 (EndI D ca ad (layC cap) mem' r below args s) (F0 m 4 ls []))  (w : Wd D ca ad (layC cap) (AA ad (layC cap).length) s.heap s mem H locs) (hl : lv_has ls 3 [(0, .ref (ad 0)), (1, .int x1), (2, .int x2)]) (h : fX8_stalePages_b4_s  k4 mem x1 x2 = some (mem', r)) : W p l e (rmx 4 92) s m args below meth c H locs 0 0 (EndI D ca ad (layC cap) mem' r below args s) (F0 m 4 ls []) := by
  unfold fX8_stalePages_b4_s at h
  refine lv_iload_n X.1 X.2.1 dX8_stalePages_4 rfl (lv_at hl 2 rfl) ?_
  refine lv_bipush (v := (6 : Int32)) X.1 X.2.1 dX8_stalePages_5 (by decide) ?_
  refine lv_icmp_ge (tgt := 50) X.1 X.2.1 dX8_stalePages_7 (by decide) (fun c1 => ?_) (fun c1 => ?_)
  · rw [if_pos c1] at h
    refine lv_iload_n X.1 X.2.1 dX8_stalePages_50 rfl (lv_at hl 1 rfl) ?_
    obtain ⟨rfl, rfl⟩ := Prod.mk.inj (Option.some.inj h)
    exact r_iret X M w dX8_stalePages_51
  · rw [if_neg c1] at h
    refine lv_aload_n X.1 X.2.1 dX8_stalePages_10 rfl (lv_at hl 0 rfl) ?_
    refine r_getr (b2 := 7) X w lyC_0 rfl inT8 3 rfl rfl (by decide) rfl tw_315 dX8_stalePages_11 ?_
    refine r_getr (b2 := 8) X w lyC_7 rfl inT5 0 rfl rfl (by decide) rfl tw_171 dX8_stalePages_14 ?_
    refine lv_iload_n X.1 X.2.1 dX8_stalePages_17 rfl (lv_at hl 2 rfl) ?_
    obtain ⟨hi2, h⟩ := gd_some h
    obtain ⟨b3, eb3, h⟩ := lkN_some h
    refine r_aald X w (t := 2) lyC_8 rfl hi2 eb3 dX8_stalePages_18 ?_
    have hb3 : isPl b3 := isPl_of isSt7 hi2 eb3
    refine r_get X w (lyPl hb3) rfl inT3 0 rfl (by decide) rfl tw_135 dX8_stalePages_19 ?_
    refine lv_if_eq (tgt := 44) X.1 X.2.1 dX8_stalePages_22 (by decide) (fun c4 => ?_) (fun c4 => ?_)
    · rw [if_pos c4] at h
      refine lv_iinc (v := (x2 + (1 : Int32))) (lv' := [(2, .int (x2 + (1 : Int32))), (0, .ref (ad 0)), (1, .int x1)]) X.1 X.2.1 dX8_stalePages_44 hl (k := 2) rfl rfl (by decide) rfl (fun ls hl => ?_)
      refine lv_goto (tgt := 4) X.1 X.2.1 dX8_stalePages_47 (by decide) ?_
      exact hk4 _ _ _ H locs ls w (lv_sub hl [1, 2, 0] rfl) h
    · rw [if_neg c4] at h
      refine lv_aload_n X.1 X.2.1 dX8_stalePages_25 rfl (lv_at hl 0 rfl) ?_
      refine lv_aload_n X.1 X.2.1 dX8_stalePages_26 rfl (lv_at hl 0 rfl) ?_
      refine r_getr (b2 := 7) X w lyC_0 rfl inT8 3 rfl rfl (by decide) rfl tw_315 dX8_stalePages_27 ?_
      refine r_getr (b2 := 8) X w lyC_7 rfl inT5 0 rfl rfl (by decide) rfl tw_171 dX8_stalePages_30 ?_
      refine lv_iload_n X.1 X.2.1 dX8_stalePages_33 rfl (lv_at hl 2 rfl) ?_
      obtain ⟨hi5, h⟩ := gd_some h
      obtain ⟨b6, eb6, h⟩ := lkN_some h
      refine r_aald X w (t := 2) lyC_8 rfl hi5 eb6 dX8_stalePages_34 ?_
      have hb6 : isPl b6 := isPl_of isSt7 hi5 eb6
      obtain ⟨m8, r7, hr7, h⟩ := bw_some h
      refine r_cVi (As := [.ref (ad b6)]) (rest := []) X w lyC_0 rfl (kX8_isStalePage (cap := cap) l D ca ad mem b6 hb6 hr7) (gTV tw_782 tw_784 tw_21 tw_65 tw_785) hdX8_isStalePage (by decide) rfl hl.1 rfl (Nat.le_of_ble_eq_true rfl) dX8_stalePages_35 ⟨Nat.zero_le _, Nat.zero_le _⟩ (fun H locs w => ?_)
      refine lv_if_eq (tgt := 44) X.1 X.2.1 dX8_stalePages_38 (by decide) (fun c9 => ?_) (fun c9 => ?_)
      · rw [if_pos c9] at h
        refine lv_iinc (v := (x2 + (1 : Int32))) (lv' := [(2, .int (x2 + (1 : Int32))), (0, .ref (ad 0)), (1, .int x1)]) X.1 X.2.1 dX8_stalePages_44 hl (k := 2) rfl rfl (by decide) rfl (fun ls hl => ?_)
        refine lv_goto (tgt := 4) X.1 X.2.1 dX8_stalePages_47 (by decide) ?_
        exact hk4 _ _ _ H locs ls w (lv_sub hl [1, 2, 0] rfl) h
      · rw [if_neg c9] at h
        refine lv_iinc (v := (x1 + (1 : Int32))) (lv' := [(1, .int (x1 + (1 : Int32))), (0, .ref (ad 0)), (2, .int x2)]) X.1 X.2.1 dX8_stalePages_41 hl (k := 1) rfl rfl (by decide) rfl (fun ls hl => ?_)
        refine lv_iinc (v := (x2 + (1 : Int32))) (lv' := [(2, .int (x2 + (1 : Int32))), (1, .int (x1 + (1 : Int32))), (0, .ref (ad 0))]) X.1 X.2.1 dX8_stalePages_44 hl (k := 2) rfl rfl (by decide) rfl (fun ls hl => ?_)
        refine lv_goto (tgt := 4) X.1 X.2.1 dX8_stalePages_47 (by decide) ?_
        exact hk4 _ _ _ H locs ls w (lv_sub hl [2, 1, 0] rfl) h
set_option maxRecDepth 100000 in
set_option maxHeartbeats 4000000 in
theorem wX8_stalePages_b4 {p : Program} {l : Launch} {e : Env} {s : State} {m : MethodId} {args : Array Value} {below : List Frame} {meth : Method} {c : Code} {D : va_G} {ca : Nat → ClassId} {ad : Nat → Nat} {cap : Nat}  {mem' : Mm} {r : Int32} (X : CallFix p m c cX8_stalePages 3 s args TT RX8) (M : Mt meth (some .int))  : ∀ (n : Nat) (mem : Mm) (x1 : Int32) (x2 : Int32) (H : Heap) (locs : List Loc) (ls : Array Slot)  (_ : Wd D ca ad (layC cap) (AA ad (layC cap).length) s.heap s mem H locs) (_ : lv_has ls 3 [(0, .ref (ad 0)), (1, .int x1), (2, .int x2)]) (_ : fX8_stalePages_b4  n mem x1 x2 = some (mem', r)), W p l e (rmx 4 92) s m args below meth c H locs 0 0 (EndI D ca ad (layC cap) mem' r below args s) (F0 m 4 ls []) := by
  intro n
  induction n with
  | zero => intro mem x1 x2 H locs ls  w hl h; exact (nofun : (none : Option (Mm × Int32)) = _ → _) h
  | succ n ih => intro mem x1 x2 H locs ls  w hl h; exact wX8_stalePages_b4_s X M  ih  w hl h
def fX8_stalePages (mem : Mm)  : Option (Mm × Int32) :=
  fX8_stalePages_b4 2000 mem (0 : Int32) (0 : Int32)
set_option maxRecDepth 100000 in
set_option maxHeartbeats 4000000 in
theorem kX8_stalePages {cap : Nat} (l : Launch) (D : va_G) (ca : Nat → ClassId) (ad : Nat → Nat) (mem : Mm)   {mem' : Mm} {r : Int32} (h : fX8_stalePages mem  = some (mem', r)) : CtI l yX8_stalePages cX8_stalePages 3 (some .int) (rmx 4 92) D ca ad (layC cap) mem [.ref (ad 0)] mem' r := by
  refine CtI.of (by decide) (Nat.le_of_ble_eq_true rfl) ?_
  intro p e s m args below meth c H locs ls X M w hl
  replace X : CallFix p m c cX8_stalePages 3 s args TT RX8 := X
  replace hl : lv_has ls 3 [(0, .ref (ad 0))] := hl
  unfold fX8_stalePages at h
  refine lv_iconst (v := (0 : Int32)) X.1 X.2.1 dX8_stalePages_0 (by decide) ?_
  refine lv_istore_n (lv' := [(1, .int (0 : Int32)), (0, .ref (ad 0))]) X.1 X.2.1 dX8_stalePages_1 rfl hl (by decide) rfl (fun ls hl => ?_)
  refine lv_iconst (v := (0 : Int32)) X.1 X.2.1 dX8_stalePages_2 (by decide) ?_
  refine lv_istore_n (lv' := [(2, .int (0 : Int32)), (1, .int (0 : Int32)), (0, .ref (ad 0))]) X.1 X.2.1 dX8_stalePages_3 rfl hl (by decide) rfl (fun ls hl => ?_)
  exact wX8_stalePages_b4 X M _ _ _ _ H locs ls w (lv_sub hl [2, 1, 0] rfl) h
/-! WalkHouse.staleUppers()I (W) -/
theorem hdX8_staleUppers : yX8_staleUppers.cls = RX8 ∧ yX8_staleUppers.cls ≠ "java/lang/invoke/MethodHandle" ∧ yX8_staleUppers.cls ≠ "java/lang/invoke/VarHandle" ∧ (parseMethodDescriptor yX8_staleUppers.desc).map (fun d => d.parameters.length) = some 0 := by decide +kernel
def fX8_staleUppers_b4_s  (k4 : Mm → Int32 → Int32 → Option (Mm × Int32)) (mem : Mm) (x1 : Int32) (x2 : Int32) : Option (Mm × Int32) :=
  if (6 : Int32) ≤ x2 then some (mem, x1) else gd x2 6 (lkN (16 + 1 + 1 * x2.toNatClampNeg) (fun b3 => if (mem b3 0) = 0 then k4 mem x1 (x2 + (1 : Int32)) else gd x2 6 (lkN (16 + 1 + 1 * x2.toNatClampNeg) (fun b6 => bw (fX8_isStaleUpper mem b6) (fun m8 r7 => if r7 = 0 then k4 m8 x1 (x2 + (1 : Int32)) else k4 m8 (x1 + (1 : Int32)) (x2 + (1 : Int32)))))))
def fX8_staleUppers_b4  : Nat → Mm → Int32 → Int32 → Option (Mm × Int32)
  | 0 => fun _ _ _ => none
  | n + 1 => fX8_staleUppers_b4_s  (fX8_staleUppers_b4  n)
set_option maxRecDepth 100000 in
set_option maxHeartbeats 4000000 in
theorem wX8_staleUppers_b4_s {p : Program} {l : Launch} {e : Env} {s : State} {m : MethodId} {args : Array Value} {below : List Frame} {meth : Method} {c : Code} {D : va_G} {ca : Nat → ClassId} {ad : Nat → Nat} {cap : Nat} {H : Heap} {locs : List Loc} {ls : Array Slot} {mem : Mm} {x1 : Int32} {x2 : Int32}  {k4 : Mm → Int32 → Int32 → Option (Mm × Int32)} {mem' : Mm} {r : Int32} (X : CallFix p m c cX8_staleUppers 3 s args TT RX8) (M : Mt meth (some .int))  (hk4 : ∀ (mem : Mm) (x1 : Int32) (x2 : Int32) (H : Heap) (locs : List Loc) (ls : Array Slot) , Wd D ca ad (layC cap) (AA ad (layC cap).length) s.heap s mem H locs → lv_has ls 3 [(0, .ref (ad 0)), (1, .int x1), (2, .int x2)] → k4 mem x1 x2 = some (mem', r) → W p l e (rmx 4 93) s m args below meth c H locs 0 0 (EndI D ca ad (layC cap) mem' r below args s) (F0 m 4 ls []))  (w : Wd D ca ad (layC cap) (AA ad (layC cap).length) s.heap s mem H locs) (hl : lv_has ls 3 [(0, .ref (ad 0)), (1, .int x1), (2, .int x2)]) (h : fX8_staleUppers_b4_s  k4 mem x1 x2 = some (mem', r)) : W p l e (rmx 4 93) s m args below meth c H locs 0 0 (EndI D ca ad (layC cap) mem' r below args s) (F0 m 4 ls []) := by
  unfold fX8_staleUppers_b4_s at h
  refine lv_iload_n X.1 X.2.1 dX8_staleUppers_4 rfl (lv_at hl 2 rfl) ?_
  refine lv_bipush (v := (6 : Int32)) X.1 X.2.1 dX8_staleUppers_5 (by decide) ?_
  refine lv_icmp_ge (tgt := 50) X.1 X.2.1 dX8_staleUppers_7 (by decide) (fun c1 => ?_) (fun c1 => ?_)
  · rw [if_pos c1] at h
    refine lv_iload_n X.1 X.2.1 dX8_staleUppers_50 rfl (lv_at hl 1 rfl) ?_
    obtain ⟨rfl, rfl⟩ := Prod.mk.inj (Option.some.inj h)
    exact r_iret X M w dX8_staleUppers_51
  · rw [if_neg c1] at h
    refine lv_aload_n X.1 X.2.1 dX8_staleUppers_10 rfl (lv_at hl 0 rfl) ?_
    refine r_getr (b2 := 15) X w lyC_0 rfl inT8 4 rfl rfl (by decide) rfl tw_316 dX8_staleUppers_11 ?_
    refine r_getr (b2 := 16) X w lyC_15 rfl inT5 0 rfl rfl (by decide) rfl tw_171 dX8_staleUppers_14 ?_
    refine lv_iload_n X.1 X.2.1 dX8_staleUppers_17 rfl (lv_at hl 2 rfl) ?_
    obtain ⟨hi2, h⟩ := gd_some h
    obtain ⟨b3, eb3, h⟩ := lkN_some h
    refine r_aald X w (t := 2) lyC_16 rfl hi2 eb3 dX8_staleUppers_18 ?_
    have hb3 : isPl b3 := isPl_of isSt15 hi2 eb3
    refine r_get X w (lyPl hb3) rfl inT3 0 rfl (by decide) rfl tw_135 dX8_staleUppers_19 ?_
    refine lv_if_eq (tgt := 44) X.1 X.2.1 dX8_staleUppers_22 (by decide) (fun c4 => ?_) (fun c4 => ?_)
    · rw [if_pos c4] at h
      refine lv_iinc (v := (x2 + (1 : Int32))) (lv' := [(2, .int (x2 + (1 : Int32))), (0, .ref (ad 0)), (1, .int x1)]) X.1 X.2.1 dX8_staleUppers_44 hl (k := 2) rfl rfl (by decide) rfl (fun ls hl => ?_)
      refine lv_goto (tgt := 4) X.1 X.2.1 dX8_staleUppers_47 (by decide) ?_
      exact hk4 _ _ _ H locs ls w (lv_sub hl [1, 2, 0] rfl) h
    · rw [if_neg c4] at h
      refine lv_aload_n X.1 X.2.1 dX8_staleUppers_25 rfl (lv_at hl 0 rfl) ?_
      refine lv_aload_n X.1 X.2.1 dX8_staleUppers_26 rfl (lv_at hl 0 rfl) ?_
      refine r_getr (b2 := 15) X w lyC_0 rfl inT8 4 rfl rfl (by decide) rfl tw_316 dX8_staleUppers_27 ?_
      refine r_getr (b2 := 16) X w lyC_15 rfl inT5 0 rfl rfl (by decide) rfl tw_171 dX8_staleUppers_30 ?_
      refine lv_iload_n X.1 X.2.1 dX8_staleUppers_33 rfl (lv_at hl 2 rfl) ?_
      obtain ⟨hi5, h⟩ := gd_some h
      obtain ⟨b6, eb6, h⟩ := lkN_some h
      refine r_aald X w (t := 2) lyC_16 rfl hi5 eb6 dX8_staleUppers_34 ?_
      have hb6 : isPl b6 := isPl_of isSt15 hi5 eb6
      obtain ⟨m8, r7, hr7, h⟩ := bw_some h
      refine r_cVi (As := [.ref (ad b6)]) (rest := []) X w lyC_0 rfl (kX8_isStaleUpper (cap := cap) l D ca ad mem b6 hb6 hr7) (gTV tw_791 tw_793 tw_23 tw_65 tw_794) hdX8_isStaleUpper (by decide) rfl hl.1 rfl (Nat.le_of_ble_eq_true rfl) dX8_staleUppers_35 ⟨Nat.zero_le _, Nat.zero_le _⟩ (fun H locs w => ?_)
      refine lv_if_eq (tgt := 44) X.1 X.2.1 dX8_staleUppers_38 (by decide) (fun c9 => ?_) (fun c9 => ?_)
      · rw [if_pos c9] at h
        refine lv_iinc (v := (x2 + (1 : Int32))) (lv' := [(2, .int (x2 + (1 : Int32))), (0, .ref (ad 0)), (1, .int x1)]) X.1 X.2.1 dX8_staleUppers_44 hl (k := 2) rfl rfl (by decide) rfl (fun ls hl => ?_)
        refine lv_goto (tgt := 4) X.1 X.2.1 dX8_staleUppers_47 (by decide) ?_
        exact hk4 _ _ _ H locs ls w (lv_sub hl [1, 2, 0] rfl) h
      · rw [if_neg c9] at h
        refine lv_iinc (v := (x1 + (1 : Int32))) (lv' := [(1, .int (x1 + (1 : Int32))), (0, .ref (ad 0)), (2, .int x2)]) X.1 X.2.1 dX8_staleUppers_41 hl (k := 1) rfl rfl (by decide) rfl (fun ls hl => ?_)
        refine lv_iinc (v := (x2 + (1 : Int32))) (lv' := [(2, .int (x2 + (1 : Int32))), (1, .int (x1 + (1 : Int32))), (0, .ref (ad 0))]) X.1 X.2.1 dX8_staleUppers_44 hl (k := 2) rfl rfl (by decide) rfl (fun ls hl => ?_)
        refine lv_goto (tgt := 4) X.1 X.2.1 dX8_staleUppers_47 (by decide) ?_
        exact hk4 _ _ _ H locs ls w (lv_sub hl [2, 1, 0] rfl) h
set_option maxRecDepth 100000 in
set_option maxHeartbeats 4000000 in
theorem wX8_staleUppers_b4 {p : Program} {l : Launch} {e : Env} {s : State} {m : MethodId} {args : Array Value} {below : List Frame} {meth : Method} {c : Code} {D : va_G} {ca : Nat → ClassId} {ad : Nat → Nat} {cap : Nat}  {mem' : Mm} {r : Int32} (X : CallFix p m c cX8_staleUppers 3 s args TT RX8) (M : Mt meth (some .int))  : ∀ (n : Nat) (mem : Mm) (x1 : Int32) (x2 : Int32) (H : Heap) (locs : List Loc) (ls : Array Slot)  (_ : Wd D ca ad (layC cap) (AA ad (layC cap).length) s.heap s mem H locs) (_ : lv_has ls 3 [(0, .ref (ad 0)), (1, .int x1), (2, .int x2)]) (_ : fX8_staleUppers_b4  n mem x1 x2 = some (mem', r)), W p l e (rmx 4 93) s m args below meth c H locs 0 0 (EndI D ca ad (layC cap) mem' r below args s) (F0 m 4 ls []) := by
  intro n
  induction n with
  | zero => intro mem x1 x2 H locs ls  w hl h; exact (nofun : (none : Option (Mm × Int32)) = _ → _) h
  | succ n ih => intro mem x1 x2 H locs ls  w hl h; exact wX8_staleUppers_b4_s X M  ih  w hl h
def fX8_staleUppers (mem : Mm)  : Option (Mm × Int32) :=
  fX8_staleUppers_b4 2000 mem (0 : Int32) (0 : Int32)
set_option maxRecDepth 100000 in
set_option maxHeartbeats 4000000 in
theorem kX8_staleUppers {cap : Nat} (l : Launch) (D : va_G) (ca : Nat → ClassId) (ad : Nat → Nat) (mem : Mm)   {mem' : Mm} {r : Int32} (h : fX8_staleUppers mem  = some (mem', r)) : CtI l yX8_staleUppers cX8_staleUppers 3 (some .int) (rmx 4 93) D ca ad (layC cap) mem [.ref (ad 0)] mem' r := by
  refine CtI.of (by decide) (Nat.le_of_ble_eq_true rfl) ?_
  intro p e s m args below meth c H locs ls X M w hl
  replace X : CallFix p m c cX8_staleUppers 3 s args TT RX8 := X
  replace hl : lv_has ls 3 [(0, .ref (ad 0))] := hl
  unfold fX8_staleUppers at h
  refine lv_iconst (v := (0 : Int32)) X.1 X.2.1 dX8_staleUppers_0 (by decide) ?_
  refine lv_istore_n (lv' := [(1, .int (0 : Int32)), (0, .ref (ad 0))]) X.1 X.2.1 dX8_staleUppers_1 rfl hl (by decide) rfl (fun ls hl => ?_)
  refine lv_iconst (v := (0 : Int32)) X.1 X.2.1 dX8_staleUppers_2 (by decide) ?_
  refine lv_istore_n (lv' := [(2, .int (0 : Int32)), (1, .int (0 : Int32)), (0, .ref (ad 0))]) X.1 X.2.1 dX8_staleUppers_3 rfl hl (by decide) rfl (fun ls hl => ?_)
  exact wX8_staleUppers_b4 X M _ _ _ _ H locs ls w (lv_sub hl [2, 1, 0] rfl) h
/-! WalkHouse.entriesMarked(I)I (R) -/
theorem hdX8_entriesMarked : yX8_entriesMarked.cls = RX8 ∧ yX8_entriesMarked.cls ≠ "java/lang/invoke/MethodHandle" ∧ yX8_entriesMarked.cls ≠ "java/lang/invoke/VarHandle" ∧ (parseMethodDescriptor yX8_entriesMarked.desc).map (fun d => d.parameters.length) = some 1 := by decide +kernel
def fX8_entriesMarked_b4_s  (k4 : Mm → Int32 → Int32 → Int32 → Option Int32) (mem : Mm) (x1 : Int32) (x2 : Int32) (x3 : Int32) : Option Int32 :=
  if (96 : Int32) ≤ x3 then some x2 else gd x3 96 (if ((mem 2 x3.toNatClampNeg) &&& x1) = 0 then k4 mem x1 x2 (x3 + (1 : Int32)) else k4 mem x1 (x2 + (1 : Int32)) (x3 + (1 : Int32)))
def fX8_entriesMarked_b4  : Nat → Mm → Int32 → Int32 → Int32 → Option Int32
  | 0 => fun _ _ _ _ => none
  | n + 1 => fX8_entriesMarked_b4_s  (fX8_entriesMarked_b4  n)
set_option maxRecDepth 100000 in
set_option maxHeartbeats 4000000 in
theorem wX8_entriesMarked_b4_s {p : Program} {l : Launch} {e : Env} {s : State} {m : MethodId} {args : Array Value} {below : List Frame} {meth : Method} {c : Code} {D : va_G} {ca : Nat → ClassId} {ad : Nat → Nat} {cap : Nat} {H : Heap} {locs : List Loc} {ls : Array Slot} {mem : Mm} {x1 : Int32} {x2 : Int32} {x3 : Int32}  {k4 : Mm → Int32 → Int32 → Int32 → Option Int32} {r : Int32} (X : CallFix p m c cX8_entriesMarked 4 s args TT RX8) (M : Mt meth (some .int))  (hk4 : ∀ (x1 : Int32) (x2 : Int32) (x3 : Int32) (H : Heap) (locs : List Loc) (ls : Array Slot) , Wd D ca ad (layC cap) (AA ad (layC cap).length) s.heap s mem H locs → lv_has ls 4 [(0, .ref (ad 0)), (1, .int x1), (2, .int x2), (3, .int x3)] → k4 mem x1 x2 x3 = some r → W p l e (rmx 0 0) s m args below meth c H locs 0 0 (EndI D ca ad (layC cap) mem r below args s) (F0 m 4 ls []))  (w : Wd D ca ad (layC cap) (AA ad (layC cap).length) s.heap s mem H locs) (hl : lv_has ls 4 [(0, .ref (ad 0)), (1, .int x1), (2, .int x2), (3, .int x3)]) (h : fX8_entriesMarked_b4_s  k4 mem x1 x2 x3 = some r) : W p l e (rmx 0 0) s m args below meth c H locs 0 0 (EndI D ca ad (layC cap) mem r below args s) (F0 m 4 ls []) := by
  unfold fX8_entriesMarked_b4_s at h
  refine lv_iload_n X.1 X.2.1 dX8_entriesMarked_4 rfl (lv_at hl 3 rfl) ?_
  refine lv_bipush (v := (96 : Int32)) X.1 X.2.1 dX8_entriesMarked_5 (by decide) ?_
  refine lv_icmp_ge (tgt := 30) X.1 X.2.1 dX8_entriesMarked_7 (by decide) (fun c1 => ?_) (fun c1 => ?_)
  · rw [if_pos c1] at h
    refine lv_iload_n X.1 X.2.1 dX8_entriesMarked_30 rfl (lv_at hl 2 rfl) ?_
    obtain rfl := Option.some.inj h
    exact r_iret X M w dX8_entriesMarked_31
  · rw [if_neg c1] at h
    refine lv_aload_n X.1 X.2.1 dX8_entriesMarked_10 rfl (lv_at hl 0 rfl) ?_
    refine r_getr (b2 := 2) X w lyC_0 rfl inT8 1 rfl rfl (by decide) rfl tw_313 dX8_entriesMarked_11 ?_
    refine lv_iload_n X.1 X.2.1 dX8_entriesMarked_14 rfl (lv_at hl 3 rfl) ?_
    obtain ⟨hi2, h⟩ := gd_some h
    refine r_iald X w lyC_2 hi2 dX8_entriesMarked_15 ?_
    refine lv_iload_n X.1 X.2.1 dX8_entriesMarked_16 rfl (lv_at hl 1 rfl) ?_
    refine lv_iand X.1 X.2.1 dX8_entriesMarked_17 ?_
    refine lv_if_eq (tgt := 24) X.1 X.2.1 dX8_entriesMarked_18 (by decide) (fun c3 => ?_) (fun c3 => ?_)
    · rw [if_pos c3] at h
      refine lv_iinc (v := (x3 + (1 : Int32))) (lv' := [(3, .int (x3 + (1 : Int32))), (0, .ref (ad 0)), (1, .int x1), (2, .int x2)]) X.1 X.2.1 dX8_entriesMarked_24 hl (k := 3) rfl rfl (by decide) rfl (fun ls hl => ?_)
      refine lv_goto (tgt := 4) X.1 X.2.1 dX8_entriesMarked_27 (by decide) ?_
      exact hk4 _ _ _ H locs ls w (lv_sub hl [1, 2, 3, 0] rfl) h
    · rw [if_neg c3] at h
      refine lv_iinc (v := (x2 + (1 : Int32))) (lv' := [(2, .int (x2 + (1 : Int32))), (0, .ref (ad 0)), (1, .int x1), (3, .int x3)]) X.1 X.2.1 dX8_entriesMarked_21 hl (k := 2) rfl rfl (by decide) rfl (fun ls hl => ?_)
      refine lv_iinc (v := (x3 + (1 : Int32))) (lv' := [(3, .int (x3 + (1 : Int32))), (2, .int (x2 + (1 : Int32))), (0, .ref (ad 0)), (1, .int x1)]) X.1 X.2.1 dX8_entriesMarked_24 hl (k := 3) rfl rfl (by decide) rfl (fun ls hl => ?_)
      refine lv_goto (tgt := 4) X.1 X.2.1 dX8_entriesMarked_27 (by decide) ?_
      exact hk4 _ _ _ H locs ls w (lv_sub hl [2, 3, 1, 0] rfl) h
set_option maxRecDepth 100000 in
set_option maxHeartbeats 4000000 in
theorem wX8_entriesMarked_b4 {p : Program} {l : Launch} {e : Env} {s : State} {m : MethodId} {args : Array Value} {below : List Frame} {meth : Method} {c : Code} {D : va_G} {ca : Nat → ClassId} {ad : Nat → Nat} {cap : Nat} {mem : Mm}  {r : Int32} (X : CallFix p m c cX8_entriesMarked 4 s args TT RX8) (M : Mt meth (some .int))  : ∀ (n : Nat) (x1 : Int32) (x2 : Int32) (x3 : Int32) (H : Heap) (locs : List Loc) (ls : Array Slot)  (_ : Wd D ca ad (layC cap) (AA ad (layC cap).length) s.heap s mem H locs) (_ : lv_has ls 4 [(0, .ref (ad 0)), (1, .int x1), (2, .int x2), (3, .int x3)]) (_ : fX8_entriesMarked_b4  n mem x1 x2 x3 = some r), W p l e (rmx 0 0) s m args below meth c H locs 0 0 (EndI D ca ad (layC cap) mem r below args s) (F0 m 4 ls []) := by
  intro n
  induction n with
  | zero => intro x1 x2 x3 H locs ls  w hl h; exact (nofun : (none : Option Int32) = _ → _) h
  | succ n ih => intro x1 x2 x3 H locs ls  w hl h; exact wX8_entriesMarked_b4_s X M  ih  w hl h
def fX8_entriesMarked (mem : Mm) (a1 : Int32) : Option Int32 :=
  fX8_entriesMarked_b4 2000 mem a1 (0 : Int32) (0 : Int32)
set_option maxRecDepth 100000 in
set_option maxHeartbeats 4000000 in
theorem kX8_entriesMarked {cap : Nat} (l : Launch) (D : va_G) (ca : Nat → ClassId) (ad : Nat → Nat) (mem : Mm) (a1 : Int32)  {r : Int32} (h : fX8_entriesMarked mem a1 = some r) : CtI l yX8_entriesMarked cX8_entriesMarked 4 (some .int) (rmx 0 0) D ca ad (layC cap) mem [.ref (ad 0), .int a1] mem r := by
  refine CtI.of (by decide) (Nat.le_of_ble_eq_true rfl) ?_
  intro p e s m args below meth c H locs ls X M w hl
  replace X : CallFix p m c cX8_entriesMarked 4 s args TT RX8 := X
  replace hl : lv_has ls 4 [(0, .ref (ad 0)), (1, .int a1)] := hl
  unfold fX8_entriesMarked at h
  refine lv_iconst (v := (0 : Int32)) X.1 X.2.1 dX8_entriesMarked_0 (by decide) ?_
  refine lv_istore_n (lv' := [(2, .int (0 : Int32)), (0, .ref (ad 0)), (1, .int a1)]) X.1 X.2.1 dX8_entriesMarked_1 rfl hl (by decide) rfl (fun ls hl => ?_)
  refine lv_iconst (v := (0 : Int32)) X.1 X.2.1 dX8_entriesMarked_2 (by decide) ?_
  refine lv_istore_n (lv' := [(3, .int (0 : Int32)), (2, .int (0 : Int32)), (0, .ref (ad 0)), (1, .int a1)]) X.1 X.2.1 dX8_entriesMarked_3 rfl hl (by decide) rfl (fun ls hl => ?_)
  exact wX8_entriesMarked_b4 X M _ _ _ _ H locs ls w (lv_sub hl [2, 3, 1, 0] rfl) h
/-! WalkHouse.walkersGoing()I (R) -/
theorem hdX8_walkersGoing : yX8_walkersGoing.cls = RX8 ∧ yX8_walkersGoing.cls ≠ "java/lang/invoke/MethodHandle" ∧ yX8_walkersGoing.cls ≠ "java/lang/invoke/VarHandle" ∧ (parseMethodDescriptor yX8_walkersGoing.desc).map (fun d => d.parameters.length) = some 0 := by decide +kernel
def fX8_walkersGoing_b4_s  (k4 : Mm → Int32 → Int32 → Option Int32) (mem : Mm) (x1 : Int32) (x2 : Int32) : Option Int32 :=
  if (4 : Int32) ≤ x2 then some x1 else gd x2 4 (lkN (23 + 1 + 2 * x2.toNatClampNeg) (fun b3 => if (mem b3 0) = (1 : Int32) then k4 mem (x1 + (1 : Int32)) (x2 + (1 : Int32)) else k4 mem x1 (x2 + (1 : Int32))))
def fX8_walkersGoing_b4  : Nat → Mm → Int32 → Int32 → Option Int32
  | 0 => fun _ _ _ => none
  | n + 1 => fX8_walkersGoing_b4_s  (fX8_walkersGoing_b4  n)
set_option maxRecDepth 100000 in
set_option maxHeartbeats 4000000 in
theorem wX8_walkersGoing_b4_s {p : Program} {l : Launch} {e : Env} {s : State} {m : MethodId} {args : Array Value} {below : List Frame} {meth : Method} {c : Code} {D : va_G} {ca : Nat → ClassId} {ad : Nat → Nat} {cap : Nat} {H : Heap} {locs : List Loc} {ls : Array Slot} {mem : Mm} {x1 : Int32} {x2 : Int32}  {k4 : Mm → Int32 → Int32 → Option Int32} {r : Int32} (X : CallFix p m c cX8_walkersGoing 3 s args TT RX8) (M : Mt meth (some .int))  (hk4 : ∀ (x1 : Int32) (x2 : Int32) (H : Heap) (locs : List Loc) (ls : Array Slot) , Wd D ca ad (layC cap) (AA ad (layC cap).length) s.heap s mem H locs → lv_has ls 3 [(0, .ref (ad 0)), (1, .int x1), (2, .int x2)] → k4 mem x1 x2 = some r → W p l e (rmx 0 0) s m args below meth c H locs 0 0 (EndI D ca ad (layC cap) mem r below args s) (F0 m 4 ls []))  (w : Wd D ca ad (layC cap) (AA ad (layC cap).length) s.heap s mem H locs) (hl : lv_has ls 3 [(0, .ref (ad 0)), (1, .int x1), (2, .int x2)]) (h : fX8_walkersGoing_b4_s  k4 mem x1 x2 = some r) : W p l e (rmx 0 0) s m args below meth c H locs 0 0 (EndI D ca ad (layC cap) mem r below args s) (F0 m 4 ls []) := by
  unfold fX8_walkersGoing_b4_s at h
  refine lv_iload_n X.1 X.2.1 dX8_walkersGoing_4 rfl (lv_at hl 2 rfl) ?_
  refine lv_iconst (v := (4 : Int32)) X.1 X.2.1 dX8_walkersGoing_5 (by decide) ?_
  refine lv_icmp_ge (tgt := 31) X.1 X.2.1 dX8_walkersGoing_6 (by decide) (fun c1 => ?_) (fun c1 => ?_)
  · rw [if_pos c1] at h
    refine lv_iload_n X.1 X.2.1 dX8_walkersGoing_31 rfl (lv_at hl 1 rfl) ?_
    obtain rfl := Option.some.inj h
    exact r_iret X M w dX8_walkersGoing_32
  · rw [if_neg c1] at h
    refine lv_aload_n X.1 X.2.1 dX8_walkersGoing_9 rfl (lv_at hl 0 rfl) ?_
    refine r_getr (b2 := 23) X w lyC_0 rfl inT8 5 rfl rfl (by decide) rfl tw_317 dX8_walkersGoing_10 ?_
    refine lv_iload_n X.1 X.2.1 dX8_walkersGoing_13 rfl (lv_at hl 2 rfl) ?_
    obtain ⟨hi2, h⟩ := gd_some h
    obtain ⟨b3, eb3, h⟩ := lkN_some h
    refine r_aald X w (t := 3) lyC_23 rfl hi2 eb3 dX8_walkersGoing_14 ?_
    have hb3 : isWk b3 := isWk_of hi2 eb3
    refine r_get X w (lyWk hb3) rfl inT6 0 rfl (by decide) rfl tw_186 dX8_walkersGoing_15 ?_
    refine lv_iconst (v := (1 : Int32)) X.1 X.2.1 dX8_walkersGoing_18 (by decide) ?_
    refine lv_icmp_ne (tgt := 25) X.1 X.2.1 dX8_walkersGoing_19 (by decide) (fun c4 => ?_) (fun c4 => ?_)
    · rw [if_neg c4] at h
      refine lv_iinc (v := (x2 + (1 : Int32))) (lv' := [(2, .int (x2 + (1 : Int32))), (0, .ref (ad 0)), (1, .int x1)]) X.1 X.2.1 dX8_walkersGoing_25 hl (k := 2) rfl rfl (by decide) rfl (fun ls hl => ?_)
      refine lv_goto (tgt := 4) X.1 X.2.1 dX8_walkersGoing_28 (by decide) ?_
      exact hk4 _ _ H locs ls w (lv_sub hl [1, 2, 0] rfl) h
    · rw [if_pos c4] at h
      refine lv_iinc (v := (x1 + (1 : Int32))) (lv' := [(1, .int (x1 + (1 : Int32))), (0, .ref (ad 0)), (2, .int x2)]) X.1 X.2.1 dX8_walkersGoing_22 hl (k := 1) rfl rfl (by decide) rfl (fun ls hl => ?_)
      refine lv_iinc (v := (x2 + (1 : Int32))) (lv' := [(2, .int (x2 + (1 : Int32))), (1, .int (x1 + (1 : Int32))), (0, .ref (ad 0))]) X.1 X.2.1 dX8_walkersGoing_25 hl (k := 2) rfl rfl (by decide) rfl (fun ls hl => ?_)
      refine lv_goto (tgt := 4) X.1 X.2.1 dX8_walkersGoing_28 (by decide) ?_
      exact hk4 _ _ H locs ls w (lv_sub hl [2, 1, 0] rfl) h
set_option maxRecDepth 100000 in
set_option maxHeartbeats 4000000 in
theorem wX8_walkersGoing_b4 {p : Program} {l : Launch} {e : Env} {s : State} {m : MethodId} {args : Array Value} {below : List Frame} {meth : Method} {c : Code} {D : va_G} {ca : Nat → ClassId} {ad : Nat → Nat} {cap : Nat} {mem : Mm}  {r : Int32} (X : CallFix p m c cX8_walkersGoing 3 s args TT RX8) (M : Mt meth (some .int))  : ∀ (n : Nat) (x1 : Int32) (x2 : Int32) (H : Heap) (locs : List Loc) (ls : Array Slot)  (_ : Wd D ca ad (layC cap) (AA ad (layC cap).length) s.heap s mem H locs) (_ : lv_has ls 3 [(0, .ref (ad 0)), (1, .int x1), (2, .int x2)]) (_ : fX8_walkersGoing_b4  n mem x1 x2 = some r), W p l e (rmx 0 0) s m args below meth c H locs 0 0 (EndI D ca ad (layC cap) mem r below args s) (F0 m 4 ls []) := by
  intro n
  induction n with
  | zero => intro x1 x2 H locs ls  w hl h; exact (nofun : (none : Option Int32) = _ → _) h
  | succ n ih => intro x1 x2 H locs ls  w hl h; exact wX8_walkersGoing_b4_s X M  ih  w hl h
def fX8_walkersGoing (mem : Mm)  : Option Int32 :=
  fX8_walkersGoing_b4 2000 mem (0 : Int32) (0 : Int32)
set_option maxRecDepth 100000 in
set_option maxHeartbeats 4000000 in
theorem kX8_walkersGoing {cap : Nat} (l : Launch) (D : va_G) (ca : Nat → ClassId) (ad : Nat → Nat) (mem : Mm)   {r : Int32} (h : fX8_walkersGoing mem  = some r) : CtI l yX8_walkersGoing cX8_walkersGoing 3 (some .int) (rmx 0 0) D ca ad (layC cap) mem [.ref (ad 0)] mem r := by
  refine CtI.of (by decide) (Nat.le_of_ble_eq_true rfl) ?_
  intro p e s m args below meth c H locs ls X M w hl
  replace X : CallFix p m c cX8_walkersGoing 3 s args TT RX8 := X
  replace hl : lv_has ls 3 [(0, .ref (ad 0))] := hl
  unfold fX8_walkersGoing at h
  refine lv_iconst (v := (0 : Int32)) X.1 X.2.1 dX8_walkersGoing_0 (by decide) ?_
  refine lv_istore_n (lv' := [(1, .int (0 : Int32)), (0, .ref (ad 0))]) X.1 X.2.1 dX8_walkersGoing_1 rfl hl (by decide) rfl (fun ls hl => ?_)
  refine lv_iconst (v := (0 : Int32)) X.1 X.2.1 dX8_walkersGoing_2 (by decide) ?_
  refine lv_istore_n (lv' := [(2, .int (0 : Int32)), (1, .int (0 : Int32)), (0, .ref (ad 0))]) X.1 X.2.1 dX8_walkersGoing_3 rfl hl (by decide) rfl (fun ls hl => ?_)
  exact wX8_walkersGoing_b4 X M _ _ _ H locs ls w (lv_sub hl [2, 1, 0] rfl) h
/-! WalkHouse.count(I)I (W) -/
theorem hdX8_count : yX8_count.cls = RX8 ∧ yX8_count.cls ≠ "java/lang/invoke/MethodHandle" ∧ yX8_count.cls ≠ "java/lang/invoke/VarHandle" ∧ (parseMethodDescriptor yX8_count.desc).map (fun d => d.parameters.length) = some 1 := by decide +kernel
def fX8_count (mem : Mm) (a1 : Int32) : Option (Mm × Int32) :=
  if a1 = (0 : Int32) then some (mem, (mem 3 4)) else if a1 = (1 : Int32) then bd (fX5_held mem 7) (fun r3 => some (mem, r3)) else if a1 = (2 : Int32) then bd (fX5_held mem 15) (fun r5 => some (mem, r5)) else if a1 = (3 : Int32) then bw (fX8_stalePages mem) (fun m8 r7 => some (m8, r7)) else if a1 = (4 : Int32) then bw (fX8_staleUppers mem) (fun m11 r10 => some (m11, r10)) else if a1 = (5 : Int32) then some (mem, (mem 0 11)) else if a1 = (6 : Int32) then some (mem, (mem 0 12)) else if a1 = (7 : Int32) then some (mem, (mem 0 13)) else if a1 = (8 : Int32) then some (mem, (mem 0 14)) else if a1 = (9 : Int32) then some (mem, (mem 0 15)) else if a1 = (10 : Int32) then bd (fX0_remembered mem) (fun r18 => some (mem, r18)) else if a1 = (11 : Int32) then bd (fX8_entriesMarked mem (1 : Int32)) (fun r20 => some (mem, r20)) else if a1 = (12 : Int32) then bd (fX8_entriesMarked mem (2 : Int32)) (fun r22 => some (mem, r22)) else if a1 = (13 : Int32) then bd (fX8_walkersGoing mem) (fun r24 => some (mem, r24)) else some (mem, (-1 : Int32))
set_option maxRecDepth 100000 in
set_option maxHeartbeats 4000000 in
theorem kX8_count {cap : Nat} (l : Launch) (D : va_G) (ca : Nat → ClassId) (ad : Nat → Nat) (mem : Mm) (a1 : Int32)  {mem' : Mm} {r : Int32} (h : fX8_count mem a1 = some (mem', r)) : CtI l yX8_count cX8_count 2 (some .int) (rmx 5 115) D ca ad (layC cap) mem [.ref (ad 0), .int a1] mem' r := by
  refine CtI.of (by decide) (Nat.le_of_ble_eq_true rfl) ?_
  intro p e s m args below meth c H locs ls X M w hl
  replace X : CallFix p m c cX8_count 2 s args TT RX8 := X
  replace hl : lv_has ls 2 [(0, .ref (ad 0)), (1, .int a1)] := hl
  unfold fX8_count at h
  refine lv_iload_n X.1 X.2.1 dX8_count_0 rfl (lv_at hl 1 rfl) ?_
  by_cases c1 : a1 = (0 : Int32)
  · rw [if_pos c1] at h
    refine lv_tableIn (tgt := 72) X.1 X.2.1 dX8_count_1 (by rw [c1]; decide) (by rw [c1]; decide) (by rw [c1]; rfl) (by decide) ?_
    refine lv_aload_n X.1 X.2.1 dX8_count_72 rfl (lv_at hl 0 rfl) ?_
    refine r_getr (b2 := 3) X w lyC_0 rfl inT8 2 rfl rfl (by decide) rfl tw_314 dX8_count_73 ?_
    refine r_get X w lyC_3 rfl inT4 4 rfl (by decide) rfl tw_107 dX8_count_76 ?_
    obtain ⟨rfl, rfl⟩ := Prod.mk.inj (Option.some.inj h)
    exact r_iret X M w dX8_count_79
  rw [if_neg c1] at h
  by_cases c2 : a1 = (1 : Int32)
  · rw [if_pos c2] at h
    refine lv_tableIn (tgt := 80) X.1 X.2.1 dX8_count_1 (by rw [c2]; decide) (by rw [c2]; decide) (by rw [c2]; rfl) (by decide) ?_
    refine lv_aload_n X.1 X.2.1 dX8_count_80 rfl (lv_at hl 0 rfl) ?_
    refine r_getr (b2 := 7) X w lyC_0 rfl inT8 3 rfl rfl (by decide) rfl tw_315 dX8_count_81 ?_
    obtain ⟨r3, hr3, h⟩ := bd_some h
    refine r_cVi (As := []) (rest := []) X w lyC_7 rfl (kX5_held (cap := cap) l D ca ad mem 7 isSt7 hr3) (gTV tw_777 tw_649 tw_650 tw_68 tw_651) hdX5_held (by decide) rfl hl.1 rfl (Nat.le_of_ble_eq_true rfl) dX8_count_84 ⟨Nat.zero_le _, Nat.zero_le _⟩ (fun H locs w => ?_)
    obtain ⟨rfl, rfl⟩ := Prod.mk.inj (Option.some.inj h)
    exact r_iret X M w dX8_count_87
  rw [if_neg c2] at h
  by_cases c4 : a1 = (2 : Int32)
  · rw [if_pos c4] at h
    refine lv_tableIn (tgt := 88) X.1 X.2.1 dX8_count_1 (by rw [c4]; decide) (by rw [c4]; decide) (by rw [c4]; rfl) (by decide) ?_
    refine lv_aload_n X.1 X.2.1 dX8_count_88 rfl (lv_at hl 0 rfl) ?_
    refine r_getr (b2 := 15) X w lyC_0 rfl inT8 4 rfl rfl (by decide) rfl tw_316 dX8_count_89 ?_
    obtain ⟨r5, hr5, h⟩ := bd_some h
    refine r_cVi (As := []) (rest := []) X w lyC_15 rfl (kX5_held (cap := cap) l D ca ad mem 15 isSt15 hr5) (gTV tw_777 tw_649 tw_650 tw_68 tw_651) hdX5_held (by decide) rfl hl.1 rfl (Nat.le_of_ble_eq_true rfl) dX8_count_92 ⟨Nat.zero_le _, Nat.zero_le _⟩ (fun H locs w => ?_)
    obtain ⟨rfl, rfl⟩ := Prod.mk.inj (Option.some.inj h)
    exact r_iret X M w dX8_count_95
  rw [if_neg c4] at h
  by_cases c6 : a1 = (3 : Int32)
  · rw [if_pos c6] at h
    refine lv_tableIn (tgt := 96) X.1 X.2.1 dX8_count_1 (by rw [c6]; decide) (by rw [c6]; decide) (by rw [c6]; rfl) (by decide) ?_
    refine lv_aload_n X.1 X.2.1 dX8_count_96 rfl (lv_at hl 0 rfl) ?_
    obtain ⟨m8, r7, hr7, h⟩ := bw_some h
    refine r_cVi (As := []) (rest := []) X w lyC_0 rfl (kX8_stalePages (cap := cap) l D ca ad mem   hr7) (gTV tw_778 tw_780 tw_20 tw_65 tw_781) hdX8_stalePages (by decide) rfl hl.1 rfl (Nat.le_of_ble_eq_true rfl) dX8_count_97 ⟨Nat.zero_le _, Nat.zero_le _⟩ (fun H locs w => ?_)
    obtain ⟨rfl, rfl⟩ := Prod.mk.inj (Option.some.inj h)
    exact r_iret X M w dX8_count_100
  rw [if_neg c6] at h
  by_cases c9 : a1 = (4 : Int32)
  · rw [if_pos c9] at h
    refine lv_tableIn (tgt := 101) X.1 X.2.1 dX8_count_1 (by rw [c9]; decide) (by rw [c9]; decide) (by rw [c9]; rfl) (by decide) ?_
    refine lv_aload_n X.1 X.2.1 dX8_count_101 rfl (lv_at hl 0 rfl) ?_
    obtain ⟨m11, r10, hr10, h⟩ := bw_some h
    refine r_cVi (As := []) (rest := []) X w lyC_0 rfl (kX8_staleUppers (cap := cap) l D ca ad mem   hr10) (gTV tw_787 tw_789 tw_22 tw_65 tw_790) hdX8_staleUppers (by decide) rfl hl.1 rfl (Nat.le_of_ble_eq_true rfl) dX8_count_102 ⟨Nat.zero_le _, Nat.zero_le _⟩ (fun H locs w => ?_)
    obtain ⟨rfl, rfl⟩ := Prod.mk.inj (Option.some.inj h)
    exact r_iret X M w dX8_count_105
  rw [if_neg c9] at h
  by_cases c12 : a1 = (5 : Int32)
  · rw [if_pos c12] at h
    refine lv_tableIn (tgt := 106) X.1 X.2.1 dX8_count_1 (by rw [c12]; decide) (by rw [c12]; decide) (by rw [c12]; rfl) (by decide) ?_
    refine lv_aload_n X.1 X.2.1 dX8_count_106 rfl (lv_at hl 0 rfl) ?_
    refine r_get X w lyC_0 rfl inT8 11 rfl (by decide) rfl tw_323 dX8_count_107 ?_
    obtain ⟨rfl, rfl⟩ := Prod.mk.inj (Option.some.inj h)
    exact r_iret X M w dX8_count_110
  rw [if_neg c12] at h
  by_cases c13 : a1 = (6 : Int32)
  · rw [if_pos c13] at h
    refine lv_tableIn (tgt := 111) X.1 X.2.1 dX8_count_1 (by rw [c13]; decide) (by rw [c13]; decide) (by rw [c13]; rfl) (by decide) ?_
    refine lv_aload_n X.1 X.2.1 dX8_count_111 rfl (lv_at hl 0 rfl) ?_
    refine r_get X w lyC_0 rfl inT8 12 rfl (by decide) rfl tw_324 dX8_count_112 ?_
    obtain ⟨rfl, rfl⟩ := Prod.mk.inj (Option.some.inj h)
    exact r_iret X M w dX8_count_115
  rw [if_neg c13] at h
  by_cases c14 : a1 = (7 : Int32)
  · rw [if_pos c14] at h
    refine lv_tableIn (tgt := 116) X.1 X.2.1 dX8_count_1 (by rw [c14]; decide) (by rw [c14]; decide) (by rw [c14]; rfl) (by decide) ?_
    refine lv_aload_n X.1 X.2.1 dX8_count_116 rfl (lv_at hl 0 rfl) ?_
    refine r_get X w lyC_0 rfl inT8 13 rfl (by decide) rfl tw_325 dX8_count_117 ?_
    obtain ⟨rfl, rfl⟩ := Prod.mk.inj (Option.some.inj h)
    exact r_iret X M w dX8_count_120
  rw [if_neg c14] at h
  by_cases c15 : a1 = (8 : Int32)
  · rw [if_pos c15] at h
    refine lv_tableIn (tgt := 121) X.1 X.2.1 dX8_count_1 (by rw [c15]; decide) (by rw [c15]; decide) (by rw [c15]; rfl) (by decide) ?_
    refine lv_aload_n X.1 X.2.1 dX8_count_121 rfl (lv_at hl 0 rfl) ?_
    refine r_get X w lyC_0 rfl inT8 14 rfl (by decide) rfl tw_326 dX8_count_122 ?_
    obtain ⟨rfl, rfl⟩ := Prod.mk.inj (Option.some.inj h)
    exact r_iret X M w dX8_count_125
  rw [if_neg c15] at h
  by_cases c16 : a1 = (9 : Int32)
  · rw [if_pos c16] at h
    refine lv_tableIn (tgt := 126) X.1 X.2.1 dX8_count_1 (by rw [c16]; decide) (by rw [c16]; decide) (by rw [c16]; rfl) (by decide) ?_
    refine lv_aload_n X.1 X.2.1 dX8_count_126 rfl (lv_at hl 0 rfl) ?_
    refine r_get X w lyC_0 rfl inT8 15 rfl (by decide) rfl tw_327 dX8_count_127 ?_
    obtain ⟨rfl, rfl⟩ := Prod.mk.inj (Option.some.inj h)
    exact r_iret X M w dX8_count_130
  rw [if_neg c16] at h
  by_cases c17 : a1 = (10 : Int32)
  · rw [if_pos c17] at h
    refine lv_tableIn (tgt := 131) X.1 X.2.1 dX8_count_1 (by rw [c17]; decide) (by rw [c17]; decide) (by rw [c17]; rfl) (by decide) ?_
    refine lv_aload_n X.1 X.2.1 dX8_count_131 rfl (lv_at hl 0 rfl) ?_
    refine r_getr (b2 := 37) X w lyC_0 rfl inT8 8 rfl rfl (by decide) rfl tw_320 dX8_count_132 ?_
    obtain ⟨r18, hr18, h⟩ := bd_some h
    refine r_cVi (As := []) (rest := []) X w lyC_37 rfl (kX0_remembered (cap := cap) l D ca ad mem   hr18) (gTV tw_795 tw_710 tw_711 tw_72 tw_712) hdX0_remembered (by decide) rfl hl.1 rfl (Nat.le_of_ble_eq_true rfl) dX8_count_135 ⟨Nat.zero_le _, Nat.zero_le _⟩ (fun H locs w => ?_)
    obtain ⟨rfl, rfl⟩ := Prod.mk.inj (Option.some.inj h)
    exact r_iret X M w dX8_count_138
  rw [if_neg c17] at h
  by_cases c19 : a1 = (11 : Int32)
  · rw [if_pos c19] at h
    refine lv_tableIn (tgt := 139) X.1 X.2.1 dX8_count_1 (by rw [c19]; decide) (by rw [c19]; decide) (by rw [c19]; rfl) (by decide) ?_
    refine lv_aload_n X.1 X.2.1 dX8_count_139 rfl (lv_at hl 0 rfl) ?_
    refine lv_iconst (v := (1 : Int32)) X.1 X.2.1 dX8_count_140 (by decide) ?_
    obtain ⟨r20, hr20, h⟩ := bd_some h
    refine r_cVi (As := [.int (1 : Int32)]) (rest := []) X w lyC_0 rfl (kX8_entriesMarked (cap := cap) l D ca ad mem (1 : Int32)  hr20) (gTV tw_796 tw_798 tw_24 tw_65 tw_799) hdX8_entriesMarked (by decide) rfl hl.1 rfl (Nat.le_of_ble_eq_true rfl) dX8_count_141 ⟨Nat.zero_le _, Nat.zero_le _⟩ (fun H locs w => ?_)
    obtain ⟨rfl, rfl⟩ := Prod.mk.inj (Option.some.inj h)
    exact r_iret X M w dX8_count_144
  rw [if_neg c19] at h
  by_cases c21 : a1 = (12 : Int32)
  · rw [if_pos c21] at h
    refine lv_tableIn (tgt := 145) X.1 X.2.1 dX8_count_1 (by rw [c21]; decide) (by rw [c21]; decide) (by rw [c21]; rfl) (by decide) ?_
    refine lv_aload_n X.1 X.2.1 dX8_count_145 rfl (lv_at hl 0 rfl) ?_
    refine lv_iconst (v := (2 : Int32)) X.1 X.2.1 dX8_count_146 (by decide) ?_
    obtain ⟨r22, hr22, h⟩ := bd_some h
    refine r_cVi (As := [.int (2 : Int32)]) (rest := []) X w lyC_0 rfl (kX8_entriesMarked (cap := cap) l D ca ad mem (2 : Int32)  hr22) (gTV tw_796 tw_798 tw_24 tw_65 tw_799) hdX8_entriesMarked (by decide) rfl hl.1 rfl (Nat.le_of_ble_eq_true rfl) dX8_count_147 ⟨Nat.zero_le _, Nat.zero_le _⟩ (fun H locs w => ?_)
    obtain ⟨rfl, rfl⟩ := Prod.mk.inj (Option.some.inj h)
    exact r_iret X M w dX8_count_150
  rw [if_neg c21] at h
  by_cases c23 : a1 = (13 : Int32)
  · rw [if_pos c23] at h
    refine lv_tableIn (tgt := 151) X.1 X.2.1 dX8_count_1 (by rw [c23]; decide) (by rw [c23]; decide) (by rw [c23]; rfl) (by decide) ?_
    refine lv_aload_n X.1 X.2.1 dX8_count_151 rfl (lv_at hl 0 rfl) ?_
    obtain ⟨r24, hr24, h⟩ := bd_some h
    refine r_cVi (As := []) (rest := []) X w lyC_0 rfl (kX8_walkersGoing (cap := cap) l D ca ad mem   hr24) (gTV tw_800 tw_802 tw_25 tw_65 tw_803) hdX8_walkersGoing (by decide) rfl hl.1 rfl (Nat.le_of_ble_eq_true rfl) dX8_count_152 ⟨Nat.zero_le _, Nat.zero_le _⟩ (fun H locs w => ?_)
    obtain ⟨rfl, rfl⟩ := Prod.mk.inj (Option.some.inj h)
    exact r_iret X M w dX8_count_155
  rw [if_neg c23] at h
  refine lv_tableOut (tgt := 156) X.1 X.2.1 dX8_count_1 (sw_out 0 13 [(0 : Int32), (1 : Int32), (2 : Int32), (3 : Int32), (4 : Int32), (5 : Int32), (6 : Int32), (7 : Int32), (8 : Int32), (9 : Int32), (10 : Int32), (11 : Int32), (12 : Int32), (13 : Int32)] (fun z h1 h2 => by rcases (show z = 0 ∨ z = 1 ∨ z = 2 ∨ z = 3 ∨ z = 4 ∨ z = 5 ∨ z = 6 ∨ z = 7 ∨ z = 8 ∨ z = 9 ∨ z = 10 ∨ z = 11 ∨ z = 12 ∨ z = 13 by omega) with rfl | rfl | rfl | rfl | rfl | rfl | rfl | rfl | rfl | rfl | rfl | rfl | rfl | rfl <;> decide) (by simp only [List.mem_cons, List.not_mem_nil, or_false, forall_eq_or_imp, forall_eq]; exact ⟨c1, c2, c4, c6, c9, c12, c13, c14, c15, c16, c17, c19, c21, c23⟩)) (by decide) ?_
  refine lv_iconst (v := (-1 : Int32)) X.1 X.2.1 dX8_count_156 (by decide) ?_
  obtain ⟨rfl, rfl⟩ := Prod.mk.inj (Option.some.inj h)
  exact r_iret X M w dX8_count_157
