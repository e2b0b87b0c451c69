/-- what the pure proof owes: a relation of the two memories that every call keeps, with equal answers -/
def Steps_all (Rel : Nat → Nat → Mm → Mm → Prop) : Prop := (∀ n cap cm mm, Rel n cap cm mm → Rel (n + 1) cap cm mm) ∧ St_entry Rel ∧ St_marks Rel ∧ St_root Rel ∧ St_current Rel ∧ St_access Rel ∧ St_would Rel ∧ St_steps Rel ∧ St_begin Rel ∧ St_turn Rel ∧ St_walker Rel ∧ St_fence Rel ∧ St_fenceSpace Rel ∧ St_fenceAll Rel ∧ St_way Rel ∧ St_of Rel ∧ St_cached Rel ∧ St_upper Rel ∧ St_permitted Rel ∧ St_many Rel ∧ St_reverse Rel ∧ St_through Rel ∧ St_space Rel ∧ St_count Rel
theorem nI_sub6 {L i : Nat} (hL : L ≤ 3072) (hi : i ≤ 3072) : (Int32.ofNat L - 6 < nI i) ↔ L < i + 6 := by
  have h1 : (Int32.ofNat L - 6).toInt = (L : Int) - 6 := by
    have h2 : (Int32.ofNat L).toInt = (L : Int) := nI_toInt (n := L) (by omega)
    rw [Int32.toInt_sub, h2]
    show Int.bmod ((L : Int) - 6) (2 ^ 32) = _
    exact Int.bmod_eq_of_le (by omega) (by omega)
  rw [Int32.lt_iff_toInt_lt, h1, nI_toInt (by omega)]
  omega
set_option maxRecDepth 100000 in
set_option maxHeartbeats 4000000 in
theorem law_loop {p : Program} {l : Launch} {e : Env} {s : State} {m : MethodId} {below : List Frame} {meth : Method} {c : Code} {D : va_G} {ca : Nat → ClassId} {ad2 : Nat → Nat} {q3 : Nat} {cL : ClassId} {b L : Nat} {xs : Nat → Int32} {Rel : Nat → Nat → Mm → Mm → Prop} (hSt : Steps_all Rel) (X : CallFix p m c cL_law 7 s #[Value.ref b] TT RL) (hr : meth.sig.returnType = ret) (hlocks : meth.locks = false) (hst : l.stackTraces = false) (hKn : Kn s) (hZ : Zs (fun q => s.heap.size ≤ q) s s.heap) (hKL : va_K D vwCl [(cL, .long)] s) (hX : va_X b L xs s s.heap) (hbl : b < s.heap.size) (hL : L ≤ 3072) :
    ∀ (k n i : Nat), i = 6 * n → L + 6 ≤ i + k → i ≤ 3072 → ∀ (ad1 : Nat → Nat) (cap : Nat) (cm mm : Mm) (fo : Nat → Int64) (H : Heap) (locs : List Loc) (ls : Array Slot), Rel n cap cm mm → LW D ca ad1 cap cm ad2 mm q3 fo cL s H locs → lv_has ls 7 [(0, .ref b), (1, .ref (ad1 0)), (2, .ref (ad2 0)), (3, .ref q3), (4, .int (nI i))] → W p l e room_1 s m #[Value.ref b] below meth c H locs (100 + 2 * n) (6000 + 1024 * n) (lw_Z below #[Value.ref b] s) (F0 m 23 ls []) := by
  have hbA : ¬ (fun q : Nat => s.heap.size ≤ q) b := Nat.not_le.mpr hbl
  intro k
  induction k with
  | zero =>
    intro n i hi hk hi2 ad1 cap cm mm fo H locs ls hrel w hl
    refine lv_iload X.1 X.2.1 dL_law_23 (lv_at hl 4 rfl) ?_
    refine lv_aload_n X.1 X.2.1 dL_law_25 rfl (lv_at hl 0 rfl) ?_
    refine va_slen X.1 X.2.1 hX hbl hbA w.2.2.2.1 dL_law_26 ?_
    refine lv_bipush (v := (6 : Int32)) X.1 X.2.1 dL_law_27 (by decide) ?_
    refine lv_isub X.1 X.2.1 dL_law_29 ?_
    refine lv_icmp_gt (tgt := 1143) X.1 X.2.1 dL_law_30 (by decide) (fun _ => ?_) (fun c1 => absurd ((nI_sub6 hL hi2).mpr (by omega)) c1)
    refine lv_iconst (v := (1 : Int32)) X.1 X.2.1 dL_law_1143 (by decide) ?_
    refine va_forget (fun q hq => w.2.2.2.1.2.2 q hq) ?_
    refine W.widen (k := 601024) (n := 7293034) (by omega) (by omega) ?_
    exact lw_ret X.1 X.2.1 hr hlocks dL_law_1144
  | succ k ih =>
    intro n i hi hk hi2 ad1 cap cm mm fo H locs ls hrel w hl
    refine lv_iload X.1 X.2.1 dL_law_23 (lv_at hl 4 rfl) ?_
    refine lv_aload_n X.1 X.2.1 dL_law_25 rfl (lv_at hl 0 rfl) ?_
    refine va_slen X.1 X.2.1 hX hbl hbA w.2.2.2.1 dL_law_26 ?_
    refine lv_bipush (v := (6 : Int32)) X.1 X.2.1 dL_law_27 (by decide) ?_
    refine lv_isub X.1 X.2.1 dL_law_29 ?_
    refine lv_icmp_gt (tgt := 1143) X.1 X.2.1 dL_law_30 (by decide) (fun _ => ?_) (fun c1 => ?_)
    · refine lv_iconst (v := (1 : Int32)) X.1 X.2.1 dL_law_1143 (by decide) ?_
      refine va_forget (fun q hq => w.2.2.2.1.2.2 q hq) ?_
      refine W.widen (k := 601024) (n := 7293034) (by omega) (by omega) ?_
      exact lw_ret X.1 X.2.1 hr hlocks dL_law_1144
    · have hlt : i + 6 ≤ L := by
        rcases Nat.lt_or_ge L (i + 6) with q | q
        · exact absurd ((nI_sub6 hL hi2).mpr q) c1
        · exact q
      have hn : n < 512 := by omega
      have next : ∀ (u : Nat → Nat) (cap' : Nat) (cm' mm' : Mm) (fo' : Nat → Int64) (H : Heap) (locs : List Loc) (ls : Array Slot) (cells' slots' : Nat), cells' ≤ (100 + 2 * n) + 2 → slots' ≤ (6000 + 1024 * n) + 1024 → Rel (n + 1) cap' cm' mm' → LW D ca u cap' cm' ad2 mm' q3 fo' cL s H locs → lv_has ls 7 [(0, .ref b), (1, .ref (u 0)), (2, .ref (ad2 0)), (3, .ref q3), (4, .int (nI i))] → W p l e room_1 s m #[Value.ref b] below meth c H locs cells' slots' (lw_Z below #[Value.ref b] s) (F0 m 1137 ls []) := by
        intro u cap' cm' mm' fo' H locs ls cells' slots' h1 h2 hrel w hl
        refine lv_iinc (v := nI (i + 6)) (lv' := [(4, .int (nI (i + 6))), (0, .ref b), (1, .ref (u 0)), (2, .ref (ad2 0)), (3, .ref q3)]) X.1 X.2.1 dL_law_1137 hl (k := 4) rfl (nI_add i 6) (by decide) rfl (fun ls hl => ?_)
        refine lv_goto (tgt := 23) X.1 X.2.1 dL_law_1140 (by decide) ?_
        refine W.widen (k := 100 + 2 * (n + 1)) (n := 6000 + 1024 * (n + 1)) (by omega) (by omega) ?_
        exact ih (n + 1) (i + 6) (by omega) (by omega) (by omega) u cap' cm' mm' fo' H locs ls hrel w (lv_sub hl [1, 2, 3, 4, 0] rfl)
      refine lv_aload_n X.1 X.2.1 dL_law_33 rfl (lv_at hl 0 rfl) ?_
      refine lv_iload X.1 X.2.1 dL_law_34 (lv_at hl 4 rfl) ?_
      refine va_sld X.1 X.2.1 hX hbl hbA w.2.2.2.1 (vp_in_nI (show i < L by omega) (by omega)) dL_law_36 ?_
      refine lv_bipush (v := (31 : Int32)) X.1 X.2.1 dL_law_37 (by decide) ?_
      refine lv_iand X.1 X.2.1 dL_law_39 ?_
      refine lv_topi (fun z _ => ?_)
      obtain ⟨hmono, s0, s1, s2, s3, s4, s5, s6, s7, s8, s9, s10, s11, s12, s13, s14, s15, s16, s17, s18, s19, s20, s21, s22⟩ := hSt
      by_cases c_0 : z = (0 : Int32)
      · refine lv_tableIn (tgt := 148) X.1 X.2.1 dL_law_40 (by rw [c_0]; decide) (by rw [c_0]; decide) (by rw [c_0]; rfl) (by decide) ?_
        exact law_entry X hX hbl hlt hL s0 hn hrel w hl (by omega) (by omega) next
      by_cases c_1 : z = (1 : Int32)
      · refine lv_tableIn (tgt := 221) X.1 X.2.1 dL_law_40 (by rw [c_1]; decide) (by rw [c_1]; decide) (by rw [c_1]; rfl) (by decide) ?_
        exact law_marks X hX hbl hlt hL s1 hn hrel w hl (by omega) (by omega) next
      by_cases c_2 : z = (2 : Int32)
      · refine lv_tableIn (tgt := 270) X.1 X.2.1 dL_law_40 (by rw [c_2]; decide) (by rw [c_2]; decide) (by rw [c_2]; rfl) (by decide) ?_
        exact law_root X hX hbl hlt hL s2 hn hrel w hl (by omega) (by omega) next
      by_cases c_3 : z = (3 : Int32)
      · refine lv_tableIn (tgt := 307) X.1 X.2.1 dL_law_40 (by rw [c_3]; decide) (by rw [c_3]; decide) (by rw [c_3]; rfl) (by decide) ?_
        exact law_current X hX hbl hlt hL s3 hn hrel w hl (by omega) (by omega) next
      by_cases c_4 : z = (4 : Int32)
      · refine lv_tableIn (tgt := 332) X.1 X.2.1 dL_law_40 (by rw [c_4]; decide) (by rw [c_4]; decide) (by rw [c_4]; rfl) (by decide) ?_
        exact law_access X hX hbl hlt hL s4 hn hrel w hl (by omega) (by omega) next
      by_cases c_5 : z = (5 : Int32)
      · refine lv_tableIn (tgt := 369) X.1 X.2.1 dL_law_40 (by rw [c_5]; decide) (by rw [c_5]; decide) (by rw [c_5]; rfl) (by decide) ?_
        exact law_would X hX hbl hlt hL s5 hn hrel w hl (by omega) (by omega) next
      by_cases c_6 : z = (6 : Int32)
      · refine lv_tableIn (tgt := 406) X.1 X.2.1 dL_law_40 (by rw [c_6]; decide) (by rw [c_6]; decide) (by rw [c_6]; rfl) (by decide) ?_
        exact law_steps X hX hbl hlt hL s6 hn hrel w hl (by omega) (by omega) next
      by_cases c_7 : z = (7 : Int32)
      · refine lv_tableIn (tgt := 443) X.1 X.2.1 dL_law_40 (by rw [c_7]; decide) (by rw [c_7]; decide) (by rw [c_7]; rfl) (by decide) ?_
        exact law_begin X hX hbl hlt hL s7 hn hrel w hl (by omega) (by omega) next
      by_cases c_8 : z = (8 : Int32)
      · refine lv_tableIn (tgt := 520) X.1 X.2.1 dL_law_40 (by rw [c_8]; decide) (by rw [c_8]; decide) (by rw [c_8]; rfl) (by decide) ?_
        exact law_turn X hX hbl hlt hL s8 hn hrel w hl (by omega) (by omega) next
      by_cases c_9 : z = (9 : Int32)
      · refine lv_tableIn (tgt := 545) X.1 X.2.1 dL_law_40 (by rw [c_9]; decide) (by rw [c_9]; decide) (by rw [c_9]; rfl) (by decide) ?_
        exact law_walker X hX hbl hlt hL s9 hn hrel w hl (by omega) (by omega) next
      by_cases c_10 : z = (10 : Int32)
      · refine lv_tableIn (tgt := 582) X.1 X.2.1 dL_law_40 (by rw [c_10]; decide) (by rw [c_10]; decide) (by rw [c_10]; rfl) (by decide) ?_
        exact law_fence X hX hbl hlt hL s10 hn hrel w hl (by omega) (by omega) next
      by_cases c_11 : z = (11 : Int32)
      · refine lv_tableIn (tgt := 619) X.1 X.2.1 dL_law_40 (by rw [c_11]; decide) (by rw [c_11]; decide) (by rw [c_11]; rfl) (by decide) ?_
        exact law_fenceSpace X hX hbl hlt hL s11 hn hrel w hl (by omega) (by omega) next
      by_cases c_12 : z = (12 : Int32)
      · refine lv_tableIn (tgt := 644) X.1 X.2.1 dL_law_40 (by rw [c_12]; decide) (by rw [c_12]; decide) (by rw [c_12]; rfl) (by decide) ?_
        exact law_fenceAll X hX hbl hlt hL s12 hn hrel w hl (by omega) (by omega) next
      by_cases c_13 : z = (13 : Int32)
      · refine lv_tableIn (tgt := 657) X.1 X.2.1 dL_law_40 (by rw [c_13]; decide) (by rw [c_13]; decide) (by rw [c_13]; rfl) (by decide) ?_
        exact law_way X hX hbl hlt hL s13 hn hrel w hl (by omega) (by omega) next
      by_cases c_14 : z = (14 : Int32)
      · refine lv_tableIn (tgt := 706) X.1 X.2.1 dL_law_40 (by rw [c_14]; decide) (by rw [c_14]; decide) (by rw [c_14]; rfl) (by decide) ?_
        exact law_of X hX hbl hlt hL s14 hn hrel w hl (by omega) (by omega) next
      by_cases c_15 : z = (15 : Int32)
      · refine lv_tableIn (tgt := 755) X.1 X.2.1 dL_law_40 (by rw [c_15]; decide) (by rw [c_15]; decide) (by rw [c_15]; rfl) (by decide) ?_
        exact law_cached X hst hKn hZ hKL hX hbl hlt hL s15 hn hrel w hl (by omega) (by omega) next
      by_cases c_16 : z = (16 : Int32)
      · refine lv_tableIn (tgt := 823) X.1 X.2.1 dL_law_40 (by rw [c_16]; decide) (by rw [c_16]; decide) (by rw [c_16]; rfl) (by decide) ?_
        exact law_upper X hst hKn hZ hKL hX hbl hlt hL s16 hn hrel w hl (by omega) (by omega) next
      by_cases c_17 : z = (17 : Int32)
      · refine lv_tableIn (tgt := 891) X.1 X.2.1 dL_law_40 (by rw [c_17]; decide) (by rw [c_17]; decide) (by rw [c_17]; rfl) (by decide) ?_
        exact law_permitted X hX hbl hlt hL s17 hn hrel w hl (by omega) (by omega) next
      by_cases c_18 : z = (18 : Int32)
      · refine lv_tableIn (tgt := 940) X.1 X.2.1 dL_law_40 (by rw [c_18]; decide) (by rw [c_18]; decide) (by rw [c_18]; rfl) (by decide) ?_
        exact law_many X hX hbl hlt hL s18 hn hrel w hl (by omega) (by omega) next
      by_cases c_19 : z = (19 : Int32)
      · refine lv_tableIn (tgt := 977) X.1 X.2.1 dL_law_40 (by rw [c_19]; decide) (by rw [c_19]; decide) (by rw [c_19]; rfl) (by decide) ?_
        exact law_reverse X hX hbl hlt hL s19 hn hrel w hl (by omega) (by omega) next
      by_cases c_20 : z = (20 : Int32)
      · refine lv_tableIn (tgt := 1026) X.1 X.2.1 dL_law_40 (by rw [c_20]; decide) (by rw [c_20]; decide) (by rw [c_20]; rfl) (by decide) ?_
        exact law_through X hX hbl hlt hL s20 hn hrel w hl (by omega) (by omega) next
      by_cases c_21 : z = (21 : Int32)
      · refine lv_tableIn (tgt := 1075) X.1 X.2.1 dL_law_40 (by rw [c_21]; decide) (by rw [c_21]; decide) (by rw [c_21]; rfl) (by decide) ?_
        exact law_space X hX hbl hlt hL s21 hn hrel w hl (by omega) (by omega) next
      by_cases c_22 : z = (22 : Int32)
      · refine lv_tableIn (tgt := 1112) X.1 X.2.1 dL_law_40 (by rw [c_22]; decide) (by rw [c_22]; decide) (by rw [c_22]; rfl) (by decide) ?_
        exact law_count X hX hbl hlt hL s22 hn hrel w hl (by omega) (by omega) next
      refine lv_tableOut (tgt := 1137) X.1 X.2.1 dL_law_40 (sw_out 0 22 [(0 : Int32), (1 : Int32), (2 : Int32), (3 : Int32), (4 : Int32), (5 : Int32), (6 : Int32), (7 : Int32), (8 : Int32), (9 : Int32), (10 : Int32), (11 : Int32), (12 : Int32), (13 : Int32), (14 : Int32), (15 : Int32), (16 : Int32), (17 : Int32), (18 : Int32), (19 : Int32), (20 : Int32), (21 : Int32), (22 : Int32)] (fun z h1 h2 => by rcases (show z = 0 ∨ z = 1 ∨ z = 2 ∨ z = 3 ∨ z = 4 ∨ z = 5 ∨ z = 6 ∨ z = 7 ∨ z = 8 ∨ z = 9 ∨ z = 10 ∨ z = 11 ∨ z = 12 ∨ z = 13 ∨ z = 14 ∨ z = 15 ∨ z = 16 ∨ z = 17 ∨ z = 18 ∨ z = 19 ∨ z = 20 ∨ z = 21 ∨ z = 22 by omega) with rfl | rfl | rfl | rfl | rfl | rfl | rfl | rfl | rfl | rfl | rfl | rfl | rfl | rfl | rfl | rfl | rfl | rfl | rfl | rfl | rfl | rfl | rfl <;> decide) (by simp only [List.mem_cons, List.not_mem_nil, or_false, forall_eq_or_imp, forall_eq]; exact ⟨c_0, c_1, c_2, c_3, c_4, c_5, c_6, c_7, c_8, c_9, c_10, c_11, c_12, c_13, c_14, c_15, c_16, c_17, c_18, c_19, c_20, c_21, c_22⟩)) (by decide) ?_
      exact next ad1 cap cm mm fo H locs ls _ _ (by omega) (by omega) (hmono n cap cm mm hrel) w hl
