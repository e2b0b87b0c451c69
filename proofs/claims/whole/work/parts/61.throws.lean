/-! methods that may throw NoSuchElementException -/
def nsB : List Cond := (vx_at0 RX8 252 nsE nsUp).filter (fun w => !goodWord w)
/-- the words of a throw that are not good ones -/
def Kn (U : State) : Prop := ∀ w ∈ nsB, va_Nw w U
theorem Kn.same {s U : State} (h : s.vm = U.vm) (k : Kn s) : Kn U := fun w hw => va_Nw.same (ns_face w hw).2 h (k w hw)
theorem Kn.warm {s U : State} (hW : s.WarmedH U.vm) (k : Kn s) : Kn U := fun w hw => va_tabs (ns_face w hw).2 (rfl : (s.setVm U.vm).vm = U.vm) (Cond.faceAtom_setVm hW.alike w (ns_face w hw).1 (k w hw))
def Zs (A : Nat → Prop) (U : State) (H : Heap) : Prop := vx_Zq Bundle.tN "UNASSIGNED_STACK" Bundle.steD A U H ∧ vx_Zq Bundle.tN "SUPPRESSED_SENTINEL" Bundle.listD A U H
def QX (D : va_G) (ca : Nat → ClassId) (ad : Nat → Nat) (sz cap : Nat) (mem' : Mm) (ro : Option Int32) : Array Value → State → Outcome → State → Prop := va_Qi (fun rr (_ : Unit) => some rr = ro) (fun _ t => va_P D vwCl (wd ca ad mem' (layC cap)) t.heap) (AF ad sz)
def XX (D : va_G) (ca : Nat → ClassId) (ad : Nat → Nat) (sz cap : Nat) (mem' : Mm) (ro : Option Int32) : String → State → State → Prop := vx_X (fun (_ : Unit) => ro = none) (fun E _ t => E = nsE ∧ va_P D vwCl (wd ca ad mem' (layC cap)) t.heap) (AF ad sz)
def EndX (D : va_G) (ca : Nat → ClassId) (ad : Nat → Nat) (cap : Nat) (mem' : Mm) (ro : Option Int32) (below : List Frame) (args : Array Value) (s : State) : State → Prop := vx_MQ below (QX D ca ad s.heap.size cap mem' ro) (XX D ca ad s.heap.size cap mem' ro) args s 1 6 (AF ad s.heap.size)
def MtX (l : Launch) (ad : Nat → Nat) (c : Code) (s : State) (meth : Method) : Prop := Mt meth (some .int) ∧ l.stackTraces = false ∧ (∀ x ∈ c.exceptionTable.toList, False) ∧ Kn s ∧ Zs (AF ad s.heap.size) s s.heap
section XR
variable {p : Program} {l : Launch} {e : Env} {R : Room} {s : State} {m : MethodId} {args : Array Value} {below : List Frame} {meth : Method} {c : Code} {H : Heap} {locs : List Loc} {cc : ByteArray} {pc nL cap : Nat} {ls : Array Slot} {D : va_G} {ca : Nat → ClassId} {ad : Nat → Nat} {mem : Mm}
theorem r_iretX {own : String} {r : Int32} (X : CallFix p m c cc nL s args TT own) (M : MtX l ad c s meth) (w : Wd D ca ad (layC cap) (AF ad s.heap.size) s.heap s mem H locs) (hdg : decode cc pc = .ok (.ireturn, 1)) : W p l e R s m args below meth c H locs 0 0 (EndX D ca ad cap mem (some r) below args s) (F0 m pc ls [.int r]) := by
  refine W.widen (k := 1) (n := 6) (by decide) (by decide) (vx_ret ?_)
  exact W.iret (v := r) X.1 X.2.1 M.1.1 (fun t ht hW => ⟨⟨r, (), rfl, rfl, by subst ht; exact w.1⟩, w.2.1.F ht⟩) w.2.1.2.2 hdg M.1.2
theorem r_throwX (X : CallFix p m c cc nL s args TT RX8) (M : MtX l ad c s meth) (w : Wd D ca ad (layC cap) (AF ad s.heap.size) s.heap s mem H locs) (hsz : ls.size = nL) (d0 : decode cc pc = .ok (.new 250, 3)) (d3 : decode cc (pc + 3) = .ok (.dup, 1)) (d4 : decode cc (pc + 4) = .ok (.invokespecial 252, 3)) (d7 : decode cc (pc + 7) = .ok (.athrow, 1)) (hR : 5 < R.frames ∧ 81 ≤ R.locals ∧ 1 ≤ R.cells ∧ 6 ≤ R.slots) : W p l e R s m args below meth c H locs 0 0 (EndX D ca ad cap mem none below args s) (F0 m pc ls []) := by
  obtain ⟨hM, hst, htab, hKn, hU, hN⟩ := M
  refine vx_throw0 (own := RX8) (cls := nsE) (names := nsUp) (ik := 250) (ic := 252) (A := AF ad s.heap.size) X.1 X.2.1 hst X.2.2.2.1 (by decide +kernel) (by decide +kernel) (X.2.2.2.2 _ tw_816) (X.2.2.2.2 _ tw_81) (vx_hat (B := nsB) (fun w hw => X.2.2.2.2 _ (ns_TT w hw)) (fun w hw => hw) (fun w hw => va_Nw.use (ns_face w hw).2 (hKn w hw))) ns_ot hU hN w.2.1 (hsz.trans X.2.2.1.symm) d0 d3 d4 d7 (fun x hx => (htab x hx).elim) hR.1 (by show 0 + (13 * 3 + 42) ≤ R.locals; exact hR.2.1) (by omega) (by omega) hM.2 (fun t _ hle hk => ⟨(), rfl, ⟨rfl, w.1.kept (fun j q hj => hk q.1 (w.1 j q hj).lt)⟩, Nat.le_trans w.2.1.1 hle, fun q h1 h2 => (hk q (Nat.lt_of_lt_of_le h1 w.2.1.1)).trans (w.2.1.2.1 q h1 h2)⟩) w.2.1.2.2 (by decide) (by decide)
end XR
def PreX (D : va_G) (ca : Nat → ClassId) (ad : Nat → Nat) (sz cap : Nat) (mem : Mm) (av : List Value) : Array Value → State → Prop := va_Pc av (fun U => U.heap.size = sz ∧ va_P D vwCl (wd ca ad mem (layC cap)) U.heap ∧ Kx D ca U ∧ Dj ad 46 ∧ Kn U ∧ Zs (AF ad sz) U U.heap)
theorem PreX.blind {D : va_G} {ca : Nat → ClassId} {ad : Nat → Nat} {sz cap : Nat} {mem : Mm} {av : List Value} : FrameBlind (PreX D ca ad sz cap mem av) := by
  intro a U g mk q
  obtain ⟨q0, q1, q2, q3, q4, q5, q6, q7⟩ := q
  exact ⟨q0, q1, q2, Kx.same (s := U) rfl q3, q4, Kn.same (s := U) rfl q5, vx_Zq.moved (Vm.Alike.refl U.vm) q6, vx_Zq.moved (Vm.Alike.refl U.vm) q7⟩
theorem CtX.of {l : Launch} {y : MethodName} {cc : ByteArray} {maxL : Nat} {rm : Room} {D : va_G} {ca : Nat → ClassId} {ad : Nat → Nat} {sz cap : Nat} {mem : Mm} {av : List Value} {mem' : Mm} {r : Option Int32} (hst : l.stackTraces = false) (hy : plainName y.cls = true) (hle : (lg_sl av).length ≤ maxL)
    (body : ∀ p e s m args below meth c H locs ls, CallFix p m c cc maxL s args TT y.cls → MtX l ad c s meth → Wd D ca ad (layC cap) (AF ad s.heap.size) s.heap s mem H locs → lv_has ls maxL (lv_args 0 av) → W p l e rm s m args below meth c H locs 0 0 (EndX D ca ad cap mem' r below args s) (F0 m 0 ls [])) : vx_Met l y (wsT y cc maxL (some .int)) rm (PreX D ca ad sz cap mem av) (QX D ca ad sz cap mem' r) (XX D ca ad sz cap mem' r) 1 6 (AF ad sz) := by
  refine vx_ofW (cc := cc) (maxL := maxL) (ret := some .int) hy rfl ?_
  intro p e s m args below meth c s₁ B hml htab hv
  obtain ⟨rfl, hsz, hP, hK, hD, hKn, hZ⟩ := hv
  subst hsz
  have hl := lv_entry av (n := maxL) hle
  rw [lg_entry_eq]
  exact body p e s m _ below meth c s.heap [] _ ⟨B.exec, B.bytes, hml, findClass_of_methodNamed B.named, fun w h => atoms_spec (ws := wsT y cc maxL (some .int)) B.pre w (List.mem_cons_of_mem _ h)⟩ ⟨⟨B.returns, B.notSynchronized⟩, hst, htab, hKn, hZ⟩ ⟨hP, va_S.rf, ⟨hD, fun _ h => Or.inl h⟩, hK⟩ hl
/-! WalkHouse.cached(II)I (W) -/
theorem hdX8_cached : yX8_cached.cls = RX8 ∧ yX8_cached.cls ≠ "java/lang/invoke/MethodHandle" ∧ yX8_cached.cls ≠ "java/lang/invoke/VarHandle" ∧ (parseMethodDescriptor yX8_cached.desc).map (fun d => d.parameters.length) = some 2 := by decide +kernel
def fX8_cached (mem : Mm) (a1 : Int32) (a2 : Int32) : Option (Mm × Option Int32) :=
  bd (fX5_heldAt mem 7 a1) (fun r1 => oc r1 (some (mem, none)) (fun b2 => if a2 < 0 then some (mem, none) else if a2 ≤ (7 : Int32) then if a2 = (5 : Int32) then some (mem, some (mem b2 6)) else if a2 = (6 : Int32) then bd (fX5_usedLaterThan mem 7 b2) (fun r7 => some (mem, some r7)) else if a2 = (7 : Int32) then bw (fX8_isStalePage mem b2) (fun m10 r9 => if r9 = 0 then some (m10, some (0 : Int32)) else some (m10, some (1 : Int32))) else bd (fX3_told mem b2 a2) (fun r12 => some (mem, some r12)) else some (mem, none)))
set_option maxRecDepth 100000 in
set_option maxHeartbeats 4000000 in
theorem kX8_cached {cap : Nat} (l : Launch) (hst : l.stackTraces = false) (D : va_G) (ca : Nat → ClassId) (ad : Nat → Nat) (sz : Nat) (mem : Mm) (a1 : Int32) (a2 : Int32) {mem' : Mm} {r : Option Int32} (h : fX8_cached mem a1 a2 = some (mem', r)) : vx_Met l yX8_cached (wsT yX8_cached cX8_cached 4 (some .int)) ({ frames := 6, cells := 1, slots := 6, locals := 92 }) (PreX D ca ad sz cap mem [.ref (ad 0), .int a1, .int a2]) (QX D ca ad sz cap mem' r) (XX D ca ad sz cap mem' r) 1 6 (AF ad sz) := by
  refine CtX.of hst (by decide) (Nat.le_of_ble_eq_true rfl) ?_
  intro p e s m args below meth c H locs ls X M w hl
  replace X : CallFix p m c cX8_cached 4 s args TT RX8 := X
  replace hl : lv_has ls 4 [(0, .ref (ad 0)), (1, .int a1), (2, .int a2)] := hl
  unfold fX8_cached at h
  refine lv_aload_n X.1 X.2.1 dX8_cached_0 rfl (lv_at hl 0 rfl) ?_
  refine r_getr (b2 := 7) X w lyC_0 rfl inT8 3 rfl rfl (by decide) rfl tw_315 dX8_cached_1 ?_
  refine lv_iload_n X.1 X.2.1 dX8_cached_4 rfl (lv_at hl 1 rfl) ?_
  obtain ⟨r1, hr1, h⟩ := bd_some h
  refine r_cVq (As := [.int a1]) (rest := []) X w lyC_7 rfl (kX5_heldAt (cap := cap) l D ca ad mem 7 a1 isSt7 hr1) (gTV tw_812 tw_813 tw_814 tw_68 tw_815) hdX5_heldAt (by decide) rfl hl.1 rfl (Nat.le_of_ble_eq_true rfl) dX8_cached_5 ⟨Nat.zero_le _, Nat.zero_le _⟩ (fun H locs w => ?_)
  rcases r1 with _ | b2
  · have h := oc_n h
    refine lv_astore_nN (lv' := [(3, .null), (0, .ref (ad 0)), (1, .int a1), (2, .int a2)]) X.1 X.2.1 dX8_cached_8 rfl hl (by decide) rfl (fun ls hl => ?_)
    refine lv_aload_nN X.1 X.2.1 dX8_cached_9 rfl (lv_at hl 0 rfl) ?_
    refine lv_ifnullN (tgt := 23) X.1 X.2.1 dX8_cached_10 (by decide) ?_
    obtain ⟨rfl, rfl⟩ := Prod.mk.inj (Option.some.inj h)
    exact r_throwX X M w hl.1 dX8_cached_23 dX8_cached_26 dX8_cached_27 dX8_cached_30 (by decide)
  · obtain ⟨hb2, h⟩ := oc_s h
    refine lv_astore_n (lv' := [(3, .ref (ad b2)), (0, .ref (ad 0)), (1, .int a1), (2, .int a2)]) X.1 X.2.1 dX8_cached_8 rfl hl (by decide) rfl (fun ls hl => ?_)
    refine lv_aload_n X.1 X.2.1 dX8_cached_9 rfl (lv_at hl 0 rfl) ?_
    refine lv_ifnull X.1 X.2.1 dX8_cached_10 ?_
    refine lv_iload_n X.1 X.2.1 dX8_cached_13 rfl (lv_at hl 3 rfl) ?_
    refine lv_if_lt (tgt := 23) X.1 X.2.1 dX8_cached_14 (by decide) (fun c3 => ?_) (fun c3 => ?_)
    · rw [if_pos c3] at h
      obtain ⟨rfl, rfl⟩ := Prod.mk.inj (Option.some.inj h)
      exact r_throwX X M w hl.1 dX8_cached_23 dX8_cached_26 dX8_cached_27 dX8_cached_30 (by decide)
    · rw [if_neg c3] at h
      refine lv_iload_n X.1 X.2.1 dX8_cached_17 rfl (lv_at hl 3 rfl) ?_
      refine lv_bipush (v := (7 : Int32)) X.1 X.2.1 dX8_cached_18 (by decide) ?_
      refine lv_icmp_le (tgt := 31) X.1 X.2.1 dX8_cached_20 (by decide) (fun c4 => ?_) (fun c4 => ?_)
      · rw [if_pos c4] at h
        refine lv_iload_n X.1 X.2.1 dX8_cached_31 rfl (lv_at hl 3 rfl) ?_
        by_cases c5 : a2 = (5 : Int32)
        · rw [if_pos c5] at h
          refine lv_tableIn (tgt := 60) X.1 X.2.1 dX8_cached_32 (by rw [c5]; decide) (by rw [c5]; decide) (by rw [c5]; rfl) (by decide) ?_
          refine lv_aload_n X.1 X.2.1 dX8_cached_60 rfl (lv_at hl 0 rfl) ?_
          refine r_get X w (lyPl hb2) rfl inT3 6 rfl (by decide) rfl tw_150 dX8_cached_61 ?_
          obtain ⟨rfl, rfl⟩ := Prod.mk.inj (Option.some.inj h)
          exact r_iretX X M w dX8_cached_64
        rw [if_neg c5] at h
        by_cases c6 : a2 = (6 : Int32)
        · rw [if_pos c6] at h
          refine lv_tableIn (tgt := 65) X.1 X.2.1 dX8_cached_32 (by rw [c6]; decide) (by rw [c6]; decide) (by rw [c6]; rfl) (by decide) ?_
          refine lv_aload_n X.1 X.2.1 dX8_cached_65 rfl (lv_at hl 1 rfl) ?_
          refine r_getr (b2 := 7) X w lyC_0 rfl inT8 3 rfl rfl (by decide) rfl tw_315 dX8_cached_66 ?_
          refine lv_aload_n X.1 X.2.1 dX8_cached_69 rfl (lv_at hl 0 rfl) ?_
          obtain ⟨r7, hr7, h⟩ := bd_some h
          refine r_cVi (As := [.ref (ad b2)]) (rest := []) X w lyC_7 rfl (kX5_usedLaterThan (cap := cap) l D ca ad mem 7 b2 isSt7 hb2 hr7) (gTV tw_877 tw_878 tw_879 tw_68 tw_880) hdX5_usedLaterThan (by decide) rfl hl.1 rfl (Nat.le_of_ble_eq_true rfl) dX8_cached_70 ⟨Nat.zero_le _, Nat.zero_le _⟩ (fun H locs w => ?_)
          obtain ⟨rfl, rfl⟩ := Prod.mk.inj (Option.some.inj h)
          exact r_iretX X M w dX8_cached_73
        rw [if_neg c6] at h
        by_cases c8 : a2 = (7 : Int32)
        · rw [if_pos c8] at h
          refine lv_tableIn (tgt := 74) X.1 X.2.1 dX8_cached_32 (by rw [c8]; decide) (by rw [c8]; decide) (by rw [c8]; rfl) (by decide) ?_
          refine lv_aload_n X.1 X.2.1 dX8_cached_74 rfl (lv_at hl 1 rfl) ?_
          refine lv_aload_n X.1 X.2.1 dX8_cached_75 rfl (lv_at hl 0 rfl) ?_
          obtain ⟨m10, r9, hr9, h⟩ := bw_some h
          refine r_cVi (As := [.ref (ad b2)]) (rest := []) X w lyC_0 rfl (kX8_isStalePage (cap := cap) l D ca ad mem b2 hb2 hr9) (gTV tw_782 tw_784 tw_21 tw_65 tw_785) hdX8_isStalePage (by decide) rfl hl.1 rfl (Nat.le_of_ble_eq_true rfl) dX8_cached_76 ⟨Nat.zero_le _, Nat.zero_le _⟩ (fun H locs w => ?_)
          refine lv_if_eq (tgt := 86) X.1 X.2.1 dX8_cached_79 (by decide) (fun c11 => ?_) (fun c11 => ?_)
          · rw [if_pos c11] at h
            refine lv_iconst (v := (0 : Int32)) X.1 X.2.1 dX8_cached_86 (by decide) ?_
            obtain ⟨rfl, rfl⟩ := Prod.mk.inj (Option.some.inj h)
            exact r_iretX X M w dX8_cached_87
          · rw [if_neg c11] at h
            refine lv_iconst (v := (1 : Int32)) X.1 X.2.1 dX8_cached_82 (by decide) ?_
            refine lv_goto (tgt := 87) X.1 X.2.1 dX8_cached_83 (by decide) ?_
            obtain ⟨rfl, rfl⟩ := Prod.mk.inj (Option.some.inj h)
            exact r_iretX X M w dX8_cached_87
        rw [if_neg c8] at h
        refine lv_tableOut (tgt := 88) X.1 X.2.1 dX8_cached_32 (sw_out 5 7 [(5 : Int32), (6 : Int32), (7 : Int32)] (fun z h1 h2 => by rcases (show z = 5 ∨ z = 6 ∨ z = 7 by omega) with rfl | rfl | rfl <;> decide) (by simp only [List.mem_cons, List.not_mem_nil, or_false, forall_eq_or_imp, forall_eq]; exact ⟨c5, c6, c8⟩)) (by decide) ?_
        refine lv_aload_n X.1 X.2.1 dX8_cached_88 rfl (lv_at hl 0 rfl) ?_
        refine lv_iload_n X.1 X.2.1 dX8_cached_89 rfl (lv_at hl 3 rfl) ?_
        obtain ⟨r12, hr12, h⟩ := bd_some h
        refine r_cVi (As := [.int a2]) (rest := []) X w (lyPl hb2) rfl (kX3_told (cap := cap) l D ca ad mem b2 a2 hb2 hr12) (gTV tw_881 tw_882 tw_883 tw_69 tw_884) hdX3_told (by decide) rfl hl.1 rfl (Nat.le_of_ble_eq_true rfl) dX8_cached_90 ⟨Nat.zero_le _, Nat.zero_le _⟩ (fun H locs w => ?_)
        obtain ⟨rfl, rfl⟩ := Prod.mk.inj (Option.some.inj h)
        exact r_iretX X M w dX8_cached_93
      · rw [if_neg c4] at h
        obtain ⟨rfl, rfl⟩ := Prod.mk.inj (Option.some.inj h)
        exact r_throwX X M w hl.1 dX8_cached_23 dX8_cached_26 dX8_cached_27 dX8_cached_30 (by decide)
/-! WalkHouse.upper(II)I (W) -/
theorem hdX8_upper : yX8_upper.cls = RX8 ∧ yX8_upper.cls ≠ "java/lang/invoke/MethodHandle" ∧ yX8_upper.cls ≠ "java/lang/invoke/VarHandle" ∧ (parseMethodDescriptor yX8_upper.desc).map (fun d => d.parameters.length) = some 2 := by decide +kernel
def fX8_upper (mem : Mm) (a1 : Int32) (a2 : Int32) : Option (Mm × Option Int32) :=
  bd (fX5_heldAt mem 15 a1) (fun r1 => oc r1 (some (mem, none)) (fun b2 => if a2 < 0 then some (mem, none) else if a2 ≤ (6 : Int32) then if a2 = (5 : Int32) then bd (fX5_usedLaterThan mem 15 b2) (fun r6 => some (mem, some r6)) else if a2 = (6 : Int32) then bw (fX8_isStaleUpper mem b2) (fun m9 r8 => if r8 = 0 then some (m9, some (0 : Int32)) else some (m9, some (1 : Int32))) else bd (fX3_told mem b2 a2) (fun r11 => some (mem, some r11)) else some (mem, none)))
set_option maxRecDepth 100000 in
set_option maxHeartbeats 4000000 in
theorem kX8_upper {cap : Nat} (l : Launch) (hst : l.stackTraces = false) (D : va_G) (ca : Nat → ClassId) (ad : Nat → Nat) (sz : Nat) (mem : Mm) (a1 : Int32) (a2 : Int32) {mem' : Mm} {r : Option Int32} (h : fX8_upper mem a1 a2 = some (mem', r)) : vx_Met l yX8_upper (wsT yX8_upper cX8_upper 4 (some .int)) ({ frames := 6, cells := 1, slots := 6, locals := 93 }) (PreX D ca ad sz cap mem [.ref (ad 0), .int a1, .int a2]) (QX D ca ad sz cap mem' r) (XX D ca ad sz cap mem' r) 1 6 (AF ad sz) := by
  refine CtX.of hst (by decide) (Nat.le_of_ble_eq_true rfl) ?_
  intro p e s m args below meth c H locs ls X M w hl
  replace X : CallFix p m c cX8_upper 4 s args TT RX8 := X
  replace hl : lv_has ls 4 [(0, .ref (ad 0)), (1, .int a1), (2, .int a2)] := hl
  unfold fX8_upper at h
  refine lv_aload_n X.1 X.2.1 dX8_upper_0 rfl (lv_at hl 0 rfl) ?_
  refine r_getr (b2 := 15) X w lyC_0 rfl inT8 4 rfl rfl (by decide) rfl tw_316 dX8_upper_1 ?_
  refine lv_iload_n X.1 X.2.1 dX8_upper_4 rfl (lv_at hl 1 rfl) ?_
  obtain ⟨r1, hr1, h⟩ := bd_some h
  refine r_cVq (As := [.int a1]) (rest := []) X w lyC_15 rfl (kX5_heldAt (cap := cap) l D ca ad mem 15 a1 isSt15 hr1) (gTV tw_812 tw_813 tw_814 tw_68 tw_815) hdX5_heldAt (by decide) rfl hl.1 rfl (Nat.le_of_ble_eq_true rfl) dX8_upper_5 ⟨Nat.zero_le _, Nat.zero_le _⟩ (fun H locs w => ?_)
  rcases r1 with _ | b2
  · have h := oc_n h
    refine lv_astore_nN (lv' := [(3, .null), (0, .ref (ad 0)), (1, .int a1), (2, .int a2)]) X.1 X.2.1 dX8_upper_8 rfl hl (by decide) rfl (fun ls hl => ?_)
    refine lv_aload_nN X.1 X.2.1 dX8_upper_9 rfl (lv_at hl 0 rfl) ?_
    refine lv_ifnullN (tgt := 23) X.1 X.2.1 dX8_upper_10 (by decide) ?_
    obtain ⟨rfl, rfl⟩ := Prod.mk.inj (Option.some.inj h)
    exact r_throwX X M w hl.1 dX8_upper_23 dX8_upper_26 dX8_upper_27 dX8_upper_30 (by decide)
  · obtain ⟨hb2, h⟩ := oc_s h
    refine lv_astore_n (lv' := [(3, .ref (ad b2)), (0, .ref (ad 0)), (1, .int a1), (2, .int a2)]) X.1 X.2.1 dX8_upper_8 rfl hl (by decide) rfl (fun ls hl => ?_)
    refine lv_aload_n X.1 X.2.1 dX8_upper_9 rfl (lv_at hl 0 rfl) ?_
    refine lv_ifnull X.1 X.2.1 dX8_upper_10 ?_
    refine lv_iload_n X.1 X.2.1 dX8_upper_13 rfl (lv_at hl 3 rfl) ?_
    refine lv_if_lt (tgt := 23) X.1 X.2.1 dX8_upper_14 (by decide) (fun c3 => ?_) (fun c3 => ?_)
    · rw [if_pos c3] at h
      obtain ⟨rfl, rfl⟩ := Prod.mk.inj (Option.some.inj h)
      exact r_throwX X M w hl.1 dX8_upper_23 dX8_upper_26 dX8_upper_27 dX8_upper_30 (by decide)
    · rw [if_neg c3] at h
      refine lv_iload_n X.1 X.2.1 dX8_upper_17 rfl (lv_at hl 3 rfl) ?_
      refine lv_bipush (v := (6 : Int32)) X.1 X.2.1 dX8_upper_18 (by decide) ?_
      refine lv_icmp_le (tgt := 31) X.1 X.2.1 dX8_upper_20 (by decide) (fun c4 => ?_) (fun c4 => ?_)
      · rw [if_pos c4] at h
        refine lv_iload_n X.1 X.2.1 dX8_upper_31 rfl (lv_at hl 3 rfl) ?_
        by_cases c5 : a2 = (5 : Int32)
        · rw [if_pos c5] at h
          refine lv_lookup (off := 28) (tgt := 60) X.1 X.2.1 dX8_upper_32 (by decide) (by first | (rw [c5]; rfl) | rw [c5]) (by decide) ?_
          refine lv_aload_n X.1 X.2.1 dX8_upper_60 rfl (lv_at hl 1 rfl) ?_
          refine r_getr (b2 := 15) X w lyC_0 rfl inT8 4 rfl rfl (by decide) rfl tw_316 dX8_upper_61 ?_
          refine lv_aload_n X.1 X.2.1 dX8_upper_64 rfl (lv_at hl 0 rfl) ?_
          obtain ⟨r6, hr6, h⟩ := bd_some h
          refine r_cVi (As := [.ref (ad b2)]) (rest := []) X w lyC_15 rfl (kX5_usedLaterThan (cap := cap) l D ca ad mem 15 b2 isSt15 hb2 hr6) (gTV tw_877 tw_878 tw_879 tw_68 tw_880) hdX5_usedLaterThan (by decide) rfl hl.1 rfl (Nat.le_of_ble_eq_true rfl) dX8_upper_65 ⟨Nat.zero_le _, Nat.zero_le _⟩ (fun H locs w => ?_)
          obtain ⟨rfl, rfl⟩ := Prod.mk.inj (Option.some.inj h)
          exact r_iretX X M w dX8_upper_68
        rw [if_neg c5] at h
        by_cases c7 : a2 = (6 : Int32)
        · rw [if_pos c7] at h
          refine lv_lookup (off := 37) (tgt := 69) X.1 X.2.1 dX8_upper_32 (by decide) (by first | (rw [c7]; rfl) | rw [c7]) (by decide) ?_
          refine lv_aload_n X.1 X.2.1 dX8_upper_69 rfl (lv_at hl 1 rfl) ?_
          refine lv_aload_n X.1 X.2.1 dX8_upper_70 rfl (lv_at hl 0 rfl) ?_
          obtain ⟨m9, r8, hr8, h⟩ := bw_some h
          refine r_cVi (As := [.ref (ad b2)]) (rest := []) X w lyC_0 rfl (kX8_isStaleUpper (cap := cap) l D ca ad mem b2 hb2 hr8) (gTV tw_791 tw_793 tw_23 tw_65 tw_794) hdX8_isStaleUpper (by decide) rfl hl.1 rfl (Nat.le_of_ble_eq_true rfl) dX8_upper_71 ⟨Nat.zero_le _, Nat.zero_le _⟩ (fun H locs w => ?_)
          refine lv_if_eq (tgt := 81) X.1 X.2.1 dX8_upper_74 (by decide) (fun c10 => ?_) (fun c10 => ?_)
          · rw [if_pos c10] at h
            refine lv_iconst (v := (0 : Int32)) X.1 X.2.1 dX8_upper_81 (by decide) ?_
            obtain ⟨rfl, rfl⟩ := Prod.mk.inj (Option.some.inj h)
            exact r_iretX X M w dX8_upper_82
          · rw [if_neg c10] at h
            refine lv_iconst (v := (1 : Int32)) X.1 X.2.1 dX8_upper_77 (by decide) ?_
            refine lv_goto (tgt := 82) X.1 X.2.1 dX8_upper_78 (by decide) ?_
            obtain ⟨rfl, rfl⟩ := Prod.mk.inj (Option.some.inj h)
            exact r_iretX X M w dX8_upper_82
        rw [if_neg c7] at h
        refine lv_lookup (off := 51) (tgt := 83) X.1 X.2.1 dX8_upper_32 (by decide) (by first | (rw [lv_osw c5 (by decide), lv_osw c7 (by decide)]; rfl) | rw [lv_osw c5 (by decide), lv_osw c7 (by decide)]) (by decide) ?_
        refine lv_aload_n X.1 X.2.1 dX8_upper_83 rfl (lv_at hl 0 rfl) ?_
        refine lv_iload_n X.1 X.2.1 dX8_upper_84 rfl (lv_at hl 3 rfl) ?_
        obtain ⟨r11, hr11, h⟩ := bd_some h
        refine r_cVi (As := [.int a2]) (rest := []) X w (lyPl hb2) rfl (kX3_told (cap := cap) l D ca ad mem b2 a2 hb2 hr11) (gTV tw_881 tw_882 tw_883 tw_69 tw_884) hdX3_told (by decide) rfl hl.1 rfl (Nat.le_of_ble_eq_true rfl) dX8_upper_85 ⟨Nat.zero_le _, Nat.zero_le _⟩ (fun H locs w => ?_)
        obtain ⟨rfl, rfl⟩ := Prod.mk.inj (Option.some.inj h)
        exact r_iretX X M w dX8_upper_88
      · rw [if_neg c4] at h
        obtain ⟨rfl, rfl⟩ := Prod.mk.inj (Option.some.inj h)
        exact r_throwX X M w hl.1 dX8_upper_23 dX8_upper_26 dX8_upper_27 dX8_upper_30 (by decide)
