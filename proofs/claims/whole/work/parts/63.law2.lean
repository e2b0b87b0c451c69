theorem gTW {own : String} {idx : Nat} {y : MethodName} {cc : ByteArray} {maxL : Nat} {ret : Option FieldType} {hh : List (Nat × Nat × Nat × Nat)} (h1 : Cond.methodLink own idx y ∈ TT) (h2 : Cond.static y ∈ TT) (h4 : Cond.initialized y.cls ∈ TT) (h5 : Cond.codeWith y cc maxL ret hh ∈ TT) : GoodIn TT (va_wsS own idx y (Cond.codeWith y cc maxL ret hh :: TT)) := by
  refine goodIn_app (fun w hw => ?_) (fun w hw => (List.mem_cons.mp hw).elim (fun q => TT_good (q ▸ h5)) (fun q => TT_good q))
  simp only [List.mem_cons, List.not_mem_nil, or_false] at hw
  rcases hw with rfl | rfl | rfl
  · exact TT_good h1
  · exact TT_good h2
  · exact TT_good h4
/-- a call of the law's own method -/
theorem L_W {p : Program} {l : Launch} {e : Env} {R : Room} {s : State} {m : MethodId} {args : Array Value} {below : List Frame} {meth : Method} {c : Code} {H : Heap} {locs : List Loc} {cells slots : Nat} {Q : State → Prop} {cc : ByteArray} {pc nL : Nat} {ls : Array Slot} {D : va_G} {ca : Nat → ClassId} {ad1 ad2 : Nat → Nat} {cap q3 : Nat} {cm mm cm' : Mm} {fo : Nat → Int64} {cL : ClassId} {y : MethodName} {bytes : ByteArray} {index f k : Nat} {a1 a2 : Int32} {ro : Option Int32} {hh : List (Nat × Nat × Nat × Nat)} (X : CallFix p m c cc nL s args TT RL) (_hst : l.stackTraces = false) (hKn : Kn s) (hZ : Zs (fun q => s.heap.size ≤ q) s s.heap) (hKL : va_K D vwCl [(cL, .long)] s) (w : LW D ca ad1 cap cm ad2 mm q3 fo cL s H locs)
    (hM : Met l y (Cond.codeWith y bytes 5 (some .int) hh :: TT) ({ frames := f, cells := 1, slots := 6, locals := k }) (PreL D ca ad1 H.size cap cm q3 fo cL [.ref (ad1 0), .int a1, .int a2, .ref q3]) (QL D ca ad1 H.size cap cm' q3 fo cL ro) 1 6 (AW ad1 q3 H.size)) (_hcw : Cond.codeWith y bytes 5 (some .int) hh ∈ TT) (hG : GoodIn TT (va_wsS RL index y (Cond.codeWith y bytes 5 (some .int) hh :: TT))) (hd : y.cls ≠ "java/lang/invoke/MethodHandle" ∧ y.cls ≠ "java/lang/invoke/VarHandle" ∧ (parseMethodDescriptor y.desc).map (fun d => d.parameters.length) = some 4) (hR : f + 1 ≤ R.frames ∧ 8 + (5 + 11) + k ≤ R.locals) (hsz : ls.size = nL) (hdg : decode cc pc = .ok (.invokestatic index, 3)) (hf : cells + 1 ≤ R.cells ∧ slots + 6 ≤ R.slots)
    (kk : ∀ (r : Int32) (f2 : Nat → Int64) (H1 : Heap) (locs1 : List Loc), wpost ro fo r f2 → LW D ca ad1 cap cm' ad2 mm q3 f2 cL s H1 locs1 → W p l e R s m args below meth c H1 locs1 (cells + 1) (slots + 6) Q (F0 m (pc + 3) ls [.int r])) : W p l e R s m args below meth c H locs cells slots Q (F0 m pc ls [.ref q3, .int a2, .int a1, .ref (ad1 0)]) := by
  have wc := L_wdC w
  have hle : s.heap.size ≤ H.size := wc.2.1.1
  have hAW : ∀ q, AW ad1 q3 H.size q → s.heap.size ≤ q := fun q h => by
    rcases h with (h | h) | h
    · exact wc.2.2.1.2 q (by rw [lyC_len]; exact h)
    · exact Nat.le_trans hle h
    · rw [h]; exact w.2.2.2.2.1.2.2.2.1
  refine va_calli (vx_runSW (hh := hh) (As := [.ref (ad1 0), .int a1, .int a2, .ref q3]) (rest := []) X hM (vx_cwSW 4 X.2.2.2.2 hG rfl rfl rfl hd hR) ⟨PreL.blind, fun U hU hW => ⟨rfl, by rw [hU], by rw [hU]; exact w.1, by rw [hU]; exact w.2.2.1, Kx.warm hW w.2.2.2.2.2, va_K.moved hW.alike hKL, w.2.2.2.2.1.1.1, w.2.2.2.2.1.2.2.2.2.2.1, Kn.warm hW hKn, by rw [hU]; exact ⟨vx_Zq.moved hW.alike ((hZ.1.kept (fun a h1 h2 => w.2.2.2.1.2.1 a h1 h2)).narrow hAW), vx_Zq.moved hW.alike ((hZ.2.kept (fun a h1 h2 => w.2.2.2.1.2.1 a h1 h2)).narrow hAW)⟩⟩⟩ rfl rfl hsz rfl (lv_room (Nat.le_of_ble_eq_true rfl)) hdg hf) wc.2.1 (fun q _ h => hAW q h) hAW (fun r f2 t H1 locs1 ht _ hw hB _ hk hS => ?_)
  subst ht
  refine kk r f2 t.heap locs1 hw ⟨hB.1, ?_, hB.2, hS, w.2.2.2.2.1, w.2.2.2.2.2⟩
  obtain ⟨-, h2, -, -, ⟨-, -, -, -, d1, -, d3⟩, -⟩ := w
  refine h2.kept (fun j q hj => ?_)
  obtain ⟨g1, g2⟩ := wd_at hj
  rw [lyM_len] at g1
  refine hk q.1 (h2 j q hj).lt (fun z => ?_)
  rcases z with (⟨b, hb, e⟩ | z) | z
  · exact d1 b j hb g1 (by rw [← e, g2])
  · exact absurd (h2 j q hj).lt (Nat.not_lt.mpr z)
  · exact d3 j g1 (by rw [← g2]; exact z)
/-- what the pure proof owes for cached -/
def St_cached (Rel : Nat → Nat → Mm → Mm → Prop) : Prop := ∀ (n cap : Nat) (cm mm : Mm) (a1 : Int32) (a2 : Int32), n < 512 → Rel n cap cm mm → ∃ (cm' mm' : Mm) (ro : Option Int32) (rb : Int32), fX8_cached cm a1 a2 = some (cm', ro) ∧ fX9_cached mm a1 a2 = some (mm', rb) ∧ ((ro = none ∧ mm' 0 0 = 1) ∨ (∃ v, ro = some v ∧ mm' 0 0 = 0 ∧ rb = v)) ∧ Rel (n + 1) cap cm' mm'
set_option maxRecDepth 100000 in
set_option maxHeartbeats 4000000 in
theorem law_cached {p : Program} {l : Launch} {e : Env} {s : State} {m : MethodId} {below : List Frame} {meth : Method} {c : Code} {D : va_G} {ca : Nat → ClassId} {ad1 ad2 : Nat → Nat} {cap q3 : Nat} {cm mm : Mm} {fo : Nat → Int64} {cL : ClassId} {b L : Nat} {xs : Nat → Int32} {i n cells slots : Nat} {H : Heap} {locs : List Loc} {ls : Array Slot} {Q : State → Prop} {Rel : Nat → Nat → Mm → Mm → Prop} (X : CallFix p m c cL_law 7 s #[Value.ref b] TT RL) (hst : l.stackTraces = false) (hKn : Kn s) (hZ : Zs (fun q => s.heap.size ≤ q) s s.heap) (hKL : va_K D vwCl [(cL, .long)] s) (hX : va_X b L xs s s.heap) (hbl : b < s.heap.size) (hi : i + 6 ≤ L) (hL : L ≤ 3072) (hSt : St_cached Rel) (hn : n < 512) (hrel : Rel n cap cm mm) (w : LW D ca ad1 cap cm ad2 mm q3 fo cL s H locs) (hl : lv_has ls 7 [(0, .ref b), (1, .ref (ad1 0)), (2, .ref (ad2 0)), (3, .ref q3), (4, .int (nI i))]) (hc : cells + 2 ≤ 601024) (hs : slots + 1024 ≤ 7293034) (kk : ∀ (u : Nat → Nat) (cap' : Nat) (cm' mm' : Mm) (fo' : Nat → Int64) (H : Heap) (locs : List Loc) (ls : Array Slot) (cells' slots' : Nat), cells' ≤ cells + 2 → slots' ≤ slots + 1024 → Rel (n + 1) cap' cm' mm' → LW D ca u cap' cm' ad2 mm' q3 fo' cL s H locs → lv_has ls 7 [(0, .ref b), (1, .ref (u 0)), (2, .ref (ad2 0)), (3, .ref q3), (4, .int (nI i))] → W p l e room_1 s m #[Value.ref b] below meth c H locs cells' slots' Q (F0 m 1137 ls [])) : W p l e room_1 s m #[Value.ref b] below meth c H locs cells slots Q (F0 m 755 ls []) := by
  have hbA : ¬ (fun q : Nat => s.heap.size ≤ q) b := Nat.not_le.mpr hbl
  refine lv_aload_n X.1 X.2.1 dL_law_755 rfl (lv_at hl 1 rfl) ?_
  refine lv_aload_n X.1 X.2.1 dL_law_756 rfl (lv_at hl 0 rfl) ?_
  refine lv_iload X.1 X.2.1 dL_law_757 (lv_at hl 4 rfl) ?_
  refine lv_iconst (v := (1 : Int32)) X.1 X.2.1 dL_law_759 (by decide) ?_
  refine lv_iadd X.1 X.2.1 dL_law_760 ?_
  refine lv_name (y := nI (i + 1)) (nI_add i 1) ?_
  refine va_sld X.1 X.2.1 hX hbl hbA w.2.2.2.1 (vp_in_nI (show i + 1 < L by omega) (by omega)) dL_law_761 ?_
  refine lv_name (y := xs (i + 1)) (by rw [nI_clamp (by omega)]) ?_
  refine lv_aload_n X.1 X.2.1 dL_law_762 rfl (lv_at hl 0 rfl) ?_
  refine lv_iload X.1 X.2.1 dL_law_763 (lv_at hl 4 rfl) ?_
  refine lv_iconst (v := (2 : Int32)) X.1 X.2.1 dL_law_765 (by decide) ?_
  refine lv_iadd X.1 X.2.1 dL_law_766 ?_
  refine lv_name (y := nI (i + 2)) (nI_add i 2) ?_
  refine va_sld X.1 X.2.1 hX hbl hbA w.2.2.2.1 (vp_in_nI (show i + 2 < L by omega) (by omega)) dL_law_767 ?_
  refine lv_name (y := xs (i + 2)) (by rw [nI_clamp (by omega)]) ?_
  refine lv_aload_n X.1 X.2.1 dL_law_768 rfl (lv_at hl 3 rfl) ?_
  obtain ⟨cm', mm', ro, rb, hc1, hm1, hro, hrel'⟩ := hSt n cap cm mm (xs (i + 1)) (xs (i + 2)) hn hrel
  refine L_W X hst hKn hZ hKL w (kL_cached l hst D ca ad1 H.size cm q3 fo cL (xs (i + 1)) (xs (i + 2)) hc1) cwL_cached (show GoodIn TT (va_wsS RL 87 yL_cached wsLcached) from gTW tw_804 tw_805 tw_64 cwL_cached) (by decide +kernel) ⟨Nat.le_of_ble_eq_true rfl, Nat.le_of_ble_eq_true rfl⟩ hl.1 dL_law_769 ⟨by show _ ≤ 601024; omega, by show _ ≤ 7293034; omega⟩ (fun rk f2 H locs hw w => ?_)
  refine lv_istore (lv' := [(5, .int rk), (0, .ref b), (1, .ref (ad1 0)), (2, .ref (ad2 0)), (3, .ref q3), (4, .int (nI i))]) X.1 X.2.1 dL_law_772 hl (by decide) rfl (fun ls hl => ?_)
  refine lv_aload_n X.1 X.2.1 dL_law_774 rfl (lv_at hl 3 rfl) ?_
  refine lv_aload_n X.1 X.2.1 dL_law_775 rfl (lv_at hl 1 rfl) ?_
  refine lv_iload X.1 X.2.1 dL_law_776 (lv_at hl 5 rfl) ?_
  refine lv_iconst (v := (1 : Int32)) X.1 X.2.1 dL_law_778 (by decide) ?_
  refine lv_iadd X.1 X.2.1 dL_law_779 ?_
  refine lv_name (y := nI (i + 1)) (nI_add i 1) ?_
  refine va_sld X.1 X.2.1 hX hbl hbA w.2.2.2.1 (vp_in_nI (show i + 1 < L by omega) (by omega)) dL_law_780 ?_
  refine lv_name (y := xs (i + 1)) (by rw [nI_clamp (by omega)]) ?_
  refine lv_aload_n X.1 X.2.1 dL_law_781 rfl (lv_at hl 1 rfl) ?_
  refine lv_iload X.1 X.2.1 dL_law_782 (lv_at hl 5 rfl) ?_
  refine lv_iconst (v := (2 : Int32)) X.1 X.2.1 dL_law_784 (by decide) ?_
  refine lv_iadd X.1 X.2.1 dL_law_785 ?_
  refine lv_name (y := nI (i + 2)) (nI_add i 2) ?_
  refine va_sld X.1 X.2.1 hX hbl hbA w.2.2.2.1 (vp_in_nI (show i + 2 < L by omega) (by omega)) dL_law_786 ?_
  refine lv_name (y := xs (i + 2)) (by rw [nI_clamp (by omega)]) ?_
  refine L_M (As := [.int (xs (i + 1)), .int (xs (i + 2))]) (rest := []) X w (kX9_cached l D ca ad2 mm (xs (i + 1)) (xs (i + 2)) hm1) (gTV tw_1166 tw_1167 tw_1168 tw_75 tw_1169) hdX9_cached ⟨Nat.le_of_ble_eq_true rfl, Nat.le_of_ble_eq_true rfl⟩ rfl hl.1 rfl (Nat.le_of_ble_eq_true rfl) dL_law_787 ⟨by show _ ≤ 601024; omega, by show _ ≤ 7293034; omega⟩ (fun H locs w => ?_)
  refine lv_istore (lv' := [(6, .int rb), (5, .int rk), (0, .ref b), (1, .ref (ad1 0)), (2, .ref (ad2 0)), (3, .ref q3), (4, .int (nI i))]) X.1 X.2.1 dL_law_790 hl (by decide) rfl (fun ls hl => ?_)
  refine lv_aload_n X.1 X.2.1 dL_law_792 rfl (lv_at hl 4 rfl) ?_
  refine L_M (As := []) (rest := []) X w (kX9_thrown l D ca ad2 mm' rfl) (gTV tw_892 tw_893 tw_894 tw_75 tw_895) hdX9_thrown ⟨Nat.le_of_ble_eq_true rfl, Nat.le_of_ble_eq_true rfl⟩ rfl hl.1 rfl (Nat.le_of_ble_eq_true rfl) dL_law_793 ⟨by show _ ≤ 601024; omega, by show _ ≤ 7293034; omega⟩ (fun H locs w => ?_)
  refine lv_iload X.1 X.2.1 dL_law_796 (lv_at hl 1 rfl) ?_
  have hko : mm' 0 0 = rk ∧ (rk = 0 → ∃ v, f2 0 = v.toInt64 ∧ rb = v) ∧ (rk = 0 ∨ rk = 1) := by
    rcases hw with ⟨h1, h2, -⟩ | ⟨v, h1, h2, h3⟩
    · rcases hro with ⟨-, g2⟩ | ⟨z, g1, -⟩
      · exact ⟨by rw [g2, h2], fun h0 => absurd (h2.symm.trans h0) (by decide), Or.inr h2⟩
      · rw [h1] at g1; cases g1
    · rcases hro with ⟨g1, -⟩ | ⟨z, g1, g2, g3⟩
      · rw [h1] at g1; cases g1
      · rw [h1] at g1; cases g1; exact ⟨by rw [g2, h2], fun _ => ⟨v, h3, g3⟩, Or.inl h2⟩
  refine lv_icmp_eq (tgt := 803) X.1 X.2.1 dL_law_798 (by decide) (fun _ => ?_) (fun c1 => absurd hko.1 c1)
  refine lv_iload X.1 X.2.1 dL_law_803 (lv_at hl 1 rfl) ?_
  refine lv_if_ne (tgt := 820) X.1 X.2.1 dL_law_805 (by decide) (fun _ => ?_) (fun c2 => ?_)
  · refine lv_goto (tgt := 1137) X.1 X.2.1 dL_law_820 (by decide) ?_
    exact kk _ _ _ _ _ _ _ _ _ _ (by omega) (by omega) hrel' w (lv_sub hl [2, 3, 4, 5, 6] rfl)
  · obtain ⟨v, hv1, hv2⟩ := hko.2.1 c2
    refine lv_aload_n X.1 X.2.1 dL_law_808 rfl (lv_at hl 5 rfl) ?_
    refine lv_iconst (v := (0 : Int32)) X.1 X.2.1 dL_law_809 (by decide) ?_
    refine va_lald X.1 X.2.1 hKL w.2.2.1 0 0 rfl rfl (show ¬ ((0 : Int32) < 0 ∨ 1 ≤ (0 : Int32).toNatClampNeg) by decide) dL_law_810 ?_
    refine lv_iload X.1 X.2.1 dL_law_811 (lv_at hl 0 rfl) ?_
    refine lv_i2l (v := rb.toInt64) X.1 X.2.1 dL_law_813 rfl ?_
    refine W.lcmp X.1 X.2.1 dL_law_814 ?_
    refine lv_name (y := 0) (by show lg_cmp (f2 0) rb.toInt64 = 0; rw [hv1, hv2]; unfold lg_cmp; simp) ?_
    refine lv_if_eq (tgt := 820) X.1 X.2.1 dL_law_815 (by decide) (fun _ => ?_) (fun c1 => absurd rfl c1)
    refine lv_goto (tgt := 1137) X.1 X.2.1 dL_law_820 (by decide) ?_
    exact kk _ _ _ _ _ _ _ _ _ _ (by omega) (by omega) hrel' w (lv_sub hl [2, 3, 4, 5, 6] rfl)
/-- what the pure proof owes for upper -/
def St_upper (Rel : Nat → Nat → Mm → Mm → Prop) : Prop := ∀ (n cap : Nat) (cm mm : Mm) (a1 : Int32) (a2 : Int32), n < 512 → Rel n cap cm mm → ∃ (cm' mm' : Mm) (ro : Option Int32) (rb : Int32), fX8_upper cm a1 a2 = some (cm', ro) ∧ fX9_upper mm a1 a2 = some (mm', rb) ∧ ((ro = none ∧ mm' 0 0 = 1) ∨ (∃ v, ro = some v ∧ mm' 0 0 = 0 ∧ rb = v)) ∧ Rel (n + 1) cap cm' mm'
set_option maxRecDepth 100000 in
set_option maxHeartbeats 4000000 in
theorem law_upper {p : Program} {l : Launch} {e : Env} {s : State} {m : MethodId} {below : List Frame} {meth : Method} {c : Code} {D : va_G} {ca : Nat → ClassId} {ad1 ad2 : Nat → Nat} {cap q3 : Nat} {cm mm : Mm} {fo : Nat → Int64} {cL : ClassId} {b L : Nat} {xs : Nat → Int32} {i n cells slots : Nat} {H : Heap} {locs : List Loc} {ls : Array Slot} {Q : State → Prop} {Rel : Nat → Nat → Mm → Mm → Prop} (X : CallFix p m c cL_law 7 s #[Value.ref b] TT RL) (hst : l.stackTraces = false) (hKn : Kn s) (hZ : Zs (fun q => s.heap.size ≤ q) s s.heap) (hKL : va_K D vwCl [(cL, .long)] s) (hX : va_X b L xs s s.heap) (hbl : b < s.heap.size) (hi : i + 6 ≤ L) (hL : L ≤ 3072) (hSt : St_upper Rel) (hn : n < 512) (hrel : Rel n cap cm mm) (w : LW D ca ad1 cap cm ad2 mm q3 fo cL s H locs) (hl : lv_has ls 7 [(0, .ref b), (1, .ref (ad1 0)), (2, .ref (ad2 0)), (3, .ref q3), (4, .int (nI i))]) (hc : cells + 2 ≤ 601024) (hs : slots + 1024 ≤ 7293034) (kk : ∀ (u : Nat → Nat) (cap' : Nat) (cm' mm' : Mm) (fo' : Nat → Int64) (H : Heap) (locs : List Loc) (ls : Array Slot) (cells' slots' : Nat), cells' ≤ cells + 2 → slots' ≤ slots + 1024 → Rel (n + 1) cap' cm' mm' → LW D ca u cap' cm' ad2 mm' q3 fo' cL s H locs → lv_has ls 7 [(0, .ref b), (1, .ref (u 0)), (2, .ref (ad2 0)), (3, .ref q3), (4, .int (nI i))] → W p l e room_1 s m #[Value.ref b] below meth c H locs cells' slots' Q (F0 m 1137 ls [])) : W p l e room_1 s m #[Value.ref b] below meth c H locs cells slots Q (F0 m 823 ls []) := by
  have hbA : ¬ (fun q : Nat => s.heap.size ≤ q) b := Nat.not_le.mpr hbl
  refine lv_aload_n X.1 X.2.1 dL_law_823 rfl (lv_at hl 1 rfl) ?_
  refine lv_aload_n X.1 X.2.1 dL_law_824 rfl (lv_at hl 0 rfl) ?_
  refine lv_iload X.1 X.2.1 dL_law_825 (lv_at hl 4 rfl) ?_
  refine lv_iconst (v := (1 : Int32)) X.1 X.2.1 dL_law_827 (by decide) ?_
  refine lv_iadd X.1 X.2.1 dL_law_828 ?_
  refine lv_name (y := nI (i + 1)) (nI_add i 1) ?_
  refine va_sld X.1 X.2.1 hX hbl hbA w.2.2.2.1 (vp_in_nI (show i + 1 < L by omega) (by omega)) dL_law_829 ?_
  refine lv_name (y := xs (i + 1)) (by rw [nI_clamp (by omega)]) ?_
  refine lv_aload_n X.1 X.2.1 dL_law_830 rfl (lv_at hl 0 rfl) ?_
  refine lv_iload X.1 X.2.1 dL_law_831 (lv_at hl 4 rfl) ?_
  refine lv_iconst (v := (2 : Int32)) X.1 X.2.1 dL_law_833 (by decide) ?_
  refine lv_iadd X.1 X.2.1 dL_law_834 ?_
  refine lv_name (y := nI (i + 2)) (nI_add i 2) ?_
  refine va_sld X.1 X.2.1 hX hbl hbA w.2.2.2.1 (vp_in_nI (show i + 2 < L by omega) (by omega)) dL_law_835 ?_
  refine lv_name (y := xs (i + 2)) (by rw [nI_clamp (by omega)]) ?_
  refine lv_aload_n X.1 X.2.1 dL_law_836 rfl (lv_at hl 3 rfl) ?_
  obtain ⟨cm', mm', ro, rb, hc1, hm1, hro, hrel'⟩ := hSt n cap cm mm (xs (i + 1)) (xs (i + 2)) hn hrel
  refine L_W X hst hKn hZ hKL w (kL_upper l hst D ca ad1 H.size cm q3 fo cL (xs (i + 1)) (xs (i + 2)) hc1) cwL_upper (show GoodIn TT (va_wsS RL 96 yL_upper wsLupper) from gTW tw_885 tw_886 tw_64 cwL_upper) (by decide +kernel) ⟨Nat.le_of_ble_eq_true rfl, Nat.le_of_ble_eq_true rfl⟩ hl.1 dL_law_837 ⟨by show _ ≤ 601024; omega, by show _ ≤ 7293034; omega⟩ (fun rk f2 H locs hw w => ?_)
  refine lv_istore (lv' := [(5, .int rk), (0, .ref b), (1, .ref (ad1 0)), (2, .ref (ad2 0)), (3, .ref q3), (4, .int (nI i))]) X.1 X.2.1 dL_law_840 hl (by decide) rfl (fun ls hl => ?_)
  refine lv_aload_n X.1 X.2.1 dL_law_842 rfl (lv_at hl 3 rfl) ?_
  refine lv_aload_n X.1 X.2.1 dL_law_843 rfl (lv_at hl 1 rfl) ?_
  refine lv_iload X.1 X.2.1 dL_law_844 (lv_at hl 5 rfl) ?_
  refine lv_iconst (v := (1 : Int32)) X.1 X.2.1 dL_law_846 (by decide) ?_
  refine lv_iadd X.1 X.2.1 dL_law_847 ?_
  refine lv_name (y := nI (i + 1)) (nI_add i 1) ?_
  refine va_sld X.1 X.2.1 hX hbl hbA w.2.2.2.1 (vp_in_nI (show i + 1 < L by omega) (by omega)) dL_law_848 ?_
  refine lv_name (y := xs (i + 1)) (by rw [nI_clamp (by omega)]) ?_
  refine lv_aload_n X.1 X.2.1 dL_law_849 rfl (lv_at hl 1 rfl) ?_
  refine lv_iload X.1 X.2.1 dL_law_850 (lv_at hl 5 rfl) ?_
  refine lv_iconst (v := (2 : Int32)) X.1 X.2.1 dL_law_852 (by decide) ?_
  refine lv_iadd X.1 X.2.1 dL_law_853 ?_
  refine lv_name (y := nI (i + 2)) (nI_add i 2) ?_
  refine va_sld X.1 X.2.1 hX hbl hbA w.2.2.2.1 (vp_in_nI (show i + 2 < L by omega) (by omega)) dL_law_854 ?_
  refine lv_name (y := xs (i + 2)) (by rw [nI_clamp (by omega)]) ?_
  refine L_M (As := [.int (xs (i + 1)), .int (xs (i + 2))]) (rest := []) X w (kX9_upper l D ca ad2 mm (xs (i + 1)) (xs (i + 2)) hm1) (gTV tw_1178 tw_1179 tw_1180 tw_75 tw_1181) hdX9_upper ⟨Nat.le_of_ble_eq_true rfl, Nat.le_of_ble_eq_true rfl⟩ rfl hl.1 rfl (Nat.le_of_ble_eq_true rfl) dL_law_855 ⟨by show _ ≤ 601024; omega, by show _ ≤ 7293034; omega⟩ (fun H locs w => ?_)
  refine lv_istore (lv' := [(6, .int rb), (5, .int rk), (0, .ref b), (1, .ref (ad1 0)), (2, .ref (ad2 0)), (3, .ref q3), (4, .int (nI i))]) X.1 X.2.1 dL_law_858 hl (by decide) rfl (fun ls hl => ?_)
  refine lv_aload_n X.1 X.2.1 dL_law_860 rfl (lv_at hl 4 rfl) ?_
  refine L_M (As := []) (rest := []) X w (kX9_thrown l D ca ad2 mm' rfl) (gTV tw_892 tw_893 tw_894 tw_75 tw_895) hdX9_thrown ⟨Nat.le_of_ble_eq_true rfl, Nat.le_of_ble_eq_true rfl⟩ rfl hl.1 rfl (Nat.le_of_ble_eq_true rfl) dL_law_861 ⟨by show _ ≤ 601024; omega, by show _ ≤ 7293034; omega⟩ (fun H locs w => ?_)
  refine lv_iload X.1 X.2.1 dL_law_864 (lv_at hl 1 rfl) ?_
  have hko : mm' 0 0 = rk ∧ (rk = 0 → ∃ v, f2 0 = v.toInt64 ∧ rb = v) ∧ (rk = 0 ∨ rk = 1) := by
    rcases hw with ⟨h1, h2, -⟩ | ⟨v, h1, h2, h3⟩
    · rcases hro with ⟨-, g2⟩ | ⟨z, g1, -⟩
      · exact ⟨by rw [g2, h2], fun h0 => absurd (h2.symm.trans h0) (by decide), Or.inr h2⟩
      · rw [h1] at g1; cases g1
    · rcases hro with ⟨g1, -⟩ | ⟨z, g1, g2, g3⟩
      · rw [h1] at g1; cases g1
      · rw [h1] at g1; cases g1; exact ⟨by rw [g2, h2], fun _ => ⟨v, h3, g3⟩, Or.inl h2⟩
  refine lv_icmp_eq (tgt := 871) X.1 X.2.1 dL_law_866 (by decide) (fun _ => ?_) (fun c1 => absurd hko.1 c1)
  refine lv_iload X.1 X.2.1 dL_law_871 (lv_at hl 1 rfl) ?_
  refine lv_if_ne (tgt := 888) X.1 X.2.1 dL_law_873 (by decide) (fun _ => ?_) (fun c2 => ?_)
  · refine lv_goto (tgt := 1137) X.1 X.2.1 dL_law_888 (by decide) ?_
    exact kk _ _ _ _ _ _ _ _ _ _ (by omega) (by omega) hrel' w (lv_sub hl [2, 3, 4, 5, 6] rfl)
  · obtain ⟨v, hv1, hv2⟩ := hko.2.1 c2
    refine lv_aload_n X.1 X.2.1 dL_law_876 rfl (lv_at hl 5 rfl) ?_
    refine lv_iconst (v := (0 : Int32)) X.1 X.2.1 dL_law_877 (by decide) ?_
    refine va_lald X.1 X.2.1 hKL w.2.2.1 0 0 rfl rfl (show ¬ ((0 : Int32) < 0 ∨ 1 ≤ (0 : Int32).toNatClampNeg) by decide) dL_law_878 ?_
    refine lv_iload X.1 X.2.1 dL_law_879 (lv_at hl 0 rfl) ?_
    refine lv_i2l (v := rb.toInt64) X.1 X.2.1 dL_law_881 rfl ?_
    refine W.lcmp X.1 X.2.1 dL_law_882 ?_
    refine lv_name (y := 0) (by show lg_cmp (f2 0) rb.toInt64 = 0; rw [hv1, hv2]; unfold lg_cmp; simp) ?_
    refine lv_if_eq (tgt := 888) X.1 X.2.1 dL_law_883 (by decide) (fun _ => ?_) (fun c1 => absurd rfl c1)
    refine lv_goto (tgt := 1137) X.1 X.2.1 dL_law_888 (by decide) ?_
    exact kk _ _ _ _ _ _ _ _ _ _ (by omega) (by omega) hrel' w (lv_sub hl [2, 3, 4, 5, 6] rfl)
