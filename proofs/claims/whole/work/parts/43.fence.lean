/-! WalkHouse.fence -/
def bn {α : Type} (x : Option (Nat × Mm)) (k : Nat → Mm → Option α) : Option α := x.bind (fun q => k q.1 q.2)
theorem bn_some {α : Type} {x : Option (Nat × Mm)} {k : Nat → Mm → Option α} {o : α} (h : bn x k = some o) : ∃ c1 m1, x = some (c1, m1) ∧ k c1 m1 = some o := by
  obtain ⟨⟨c1, m1⟩, h1, h2⟩ := Option.bind_eq_some_iff.mp h
  exact ⟨c1, m1, h1, h2⟩
def EndF (D : va_G) (ca : Nat → ClassId) (ad0 : Nat → Nat) (cap' : Nat) (mem' : Mm) (r : Int32) (below : List Frame) (args : Array Value) (s : State) : State → Prop := MQ below (va_Qi (fun rr u => rr = r ∧ Ag ad0 u s.heap.size) (fun u t => va_P D vwCl (wd ca u mem' (layC cap')) t.heap ∧ Dj u 46) (AF ad0 s.heap.size)) args s 2 1024 (AF ad0 s.heap.size)
def CtY (l : Launch) (y : MethodName) (bytes : ByteArray) (maxL : Nat) (ret : Option FieldType) (rm : Room) (D : va_G) (ca : Nat → ClassId) (ad : Nat → Nat) (sz cap : Nat) (mem : Mm) (av : List Value) (cap' : Nat) (mem' : Mm) (r : Int32) : Prop :=
  Met l y (wsT y bytes maxL ret) rm (va_Pc av (fun U => U.heap.size = sz ∧ va_P D vwCl (wd ca ad mem (layC cap)) U.heap ∧ Kx D ca U ∧ Dj ad 46)) (va_Qi (fun rr u => rr = r ∧ Ag ad u sz) (fun u t => va_P D vwCl (wd ca u mem' (layC cap')) t.heap ∧ Dj u 46) (AF ad sz)) 2 1024 (AF ad sz)
section FN
variable {p : Program} {l : Launch} {e : Env} {R : Room} {s : State} {m : MethodId} {args : Array Value} {below : List Frame} {meth : Method} {c : Code} {H : Heap} {locs : List Loc} {cells slots : Nat} {Q : State → Prop} {cc : ByteArray} {pc nL cap : Nat} {ls : Array Slot} {D : va_G} {ca : Nat → ClassId} {ad0 ad : Nat → Nat} {mem : Mm} {rest : List Value}
theorem CtY.of {y : MethodName} {maxL : Nat} {ret : Option FieldType} {rm : Room} {sz : Nat} {av : List Value} {cap' : Nat} {mem' : Mm} {r : Int32} (hy : plainName y.cls = true) (hle : (lg_sl av).length ≤ maxL)
    (body : ∀ p e s m args below meth c H locs ls, CallFix p m c cc maxL s args TT y.cls → Mt meth ret → Wd D ca ad (layC cap) (AF ad s.heap.size) s.heap s mem H locs → lv_has ls maxL (lv_args 0 av) → W p l e rm s m args below meth c H locs 0 0 (EndF D ca ad cap' mem' r below args s) (F0 m 0 ls [])) : CtY l y cc maxL ret rm D ca ad sz cap mem av cap' mem' r := by
  refine Met.ofW (cc := cc) (maxL := maxL) (ret := ret) hy rfl ?_
  intro p e s m args below meth c s₁ B hml hv
  obtain ⟨rfl, hsz, hP, hK, hD⟩ := hv
  subst hsz
  have hl := lv_entry av (n := maxL) hle
  rw [lg_entry_eq]
  exact body p e s m _ below meth c s.heap [] _ ⟨B.exec, B.bytes, hml, findClass_of_methodNamed B.named, fun w h => atoms_spec (ws := wsT y cc maxL ret) B.pre w (List.mem_cons_of_mem _ h)⟩ ⟨B.returns, B.notSynchronized⟩ ⟨hP, va_S.rf, ⟨hD, fun _ h => Or.inl h⟩, hK⟩ hl
theorem r_iretF {own : String} {r : Int32} (X : CallFix p m c cc nL s args TT own) (M : Mt meth (some .int)) (hc : cells ≤ 2) (hs : slots ≤ 1024) (hag : Ag ad0 ad s.heap.size) (w : Wd D ca ad (layC cap) (AF ad0 s.heap.size) s.heap s mem H locs) (hdg : decode cc pc = .ok (.ireturn, 1)) : W p l e R s m args below meth c H locs cells slots (EndF D ca ad0 cap mem r below args s) (F0 m pc ls [.int r]) := by
  refine W.widen (k := 2) (n := 1024) hc hs ?_
  exact W.iret (v := r) X.1 X.2.1 M.1 (fun t ht hW => ⟨⟨r, ad, rfl, ⟨rfl, hag⟩, by subst ht; exact ⟨w.1, w.2.2.1.1⟩⟩, w.2.1.F ht⟩) w.2.1.2.2 hdg M.2
theorem AF.le {sz sz' q : Nat} (h : sz ≤ sz') (hq : AF ad sz' q) : AF ad sz q := hq.elim Or.inl (fun z => Or.inr (Nat.le_trans h z))
theorem r_cNote {a1 a2 a3 : Int32} {cap2 index : Nat} {m2 : Mm} (X : CallFix p m c cc nL s args TT RX8) (w : Wd D ca ad (layC cap) (AF ad s.heap.size) s.heap s mem H locs) (hf0 : fX1_noteAddress cap mem a1 a2 a3 = some (cap2, m2)) (hG : GoodIn TT (wsV RX8 index RX1 yX1_noteAddress (wsT yX1_noteAddress cX1_noteAddress 6 none))) (hR : 2 + 1 ≤ R.frames ∧ 8 + (6 + 11) + 46 ≤ R.locals) (hsz : ls.size = nL) (hroom : (rest.map fun v => v.category).sum ≤ 8) (hdg : decode cc pc = .ok (.invokevirtual index, 3)) (hf : cells + 2 ≤ R.cells ∧ slots + 1024 ≤ R.slots)
    (kk : ∀ (u : Nat → Nat) (H1 : Heap) (locs1 : List Loc), Ag ad u s.heap.size → Wd D ca u (layC cap2) (AF ad s.heap.size) s.heap s m2 H1 locs1 → W p l e R s m args below meth c H1 locs1 (cells + 2) (slots + 1024) Q (F0 m (pc + 3) ls rest)) : W p l e R s m args below meth c H locs cells slots Q (F0 m pc ls (.int a3 :: .int a2 :: .int a1 :: .ref (ad 40) :: rest)) := by
  have hle : s.heap.size ≤ H.size := w.2.1.1
  refine va_callv (va_runV (As := [.int a1, .int a2, .int a3]) (rest := rest) X (kX1_noteAddress l D ca ad H.size mem a1 a2 a3 hf0) (cwV 3 X.2.2.2.2 hG rfl rfl rfl hdX1_noteAddress hR) ⟨fun a U g mk q => ?_, va_recv w.2.2.2.1 w.1 (q := (RX1, TX1, 5)) rfl (wd_get lyC_40), fun U hU hW => ⟨rfl, by rw [hU], by rw [hU]; exact w.1, Kx.warm hW w.2.2.2, w.2.2.1.1⟩⟩ rfl rfl hsz rfl (lv_room hroom) hdg hf) w.2.1 (fun q _ h => AF.le hle h) (fun q h => AF.le hle h) (fun u t H1 locs1 ht _ hag hB _ _ hS => ?_)
  · obtain ⟨q0, q1, q2, q3, q4⟩ := q
    exact ⟨q0, q1, q2, Kx.same (s := U) rfl q3, q4⟩
  · subst ht
    refine kk u t.heap locs1 ⟨hag.1, fun b hb => AF.le hle (hag.2 b hb)⟩ ⟨hB.1, hS, ⟨hB.2, fun q hq => ?_⟩, w.2.2.2⟩
    obtain ⟨b, hb, rfl⟩ := hq
    exact AF.le hle (hag.2 b hb)
end FN
/-! WalkHouse.fence(II)I (W) -/
theorem hdX8_fence : yX8_fence.cls = RX8 ∧ yX8_fence.cls ≠ "java/lang/invoke/MethodHandle" ∧ yX8_fence.cls ≠ "java/lang/invoke/VarHandle" ∧ (parseMethodDescriptor yX8_fence.desc).map (fun d => d.parameters.length) = some 2 := by decide +kernel
def fX8_fence_b63 (cap : Nat) (k29 : Mm → Int32 → Int32 → Int32 → Int32 → Option (Nat × Mm × Int32)) (mem : Mm) (x1 : Int32) (x2 : Int32) (x3 : Int32) (x4 : Int32) : Option (Nat × Mm × Int32) :=
  gd x4 4 (lkN (23 + 1 + 2 * x4.toNatClampNeg) (fun b2 => bw (fX6_abort mem b2) (fun m4 r3 => k29 m4 x1 x2 x3 (x4 + (1 : Int32)))))
set_option maxRecDepth 100000 in
set_option maxHeartbeats 4000000 in
theorem wX8_fence_b63 {p : Program} {l : Launch} {e : Env} {s : State} {m : MethodId} {args : Array Value} {below : List Frame} {meth : Method} {c : Code} {D : va_G} {ca : Nat → ClassId} {ad : Nat → Nat} {cap : Nat} {H : Heap} {locs : List Loc} {ls : Array Slot} {mem : Mm} {x1 : Int32} {x2 : Int32} {x3 : Int32} {x4 : Int32} {k29 : Mm → Int32 → Int32 → Int32 → Int32 → Option (Nat × Mm × Int32)} {cap' : Nat} {mem' : Mm} {r : Int32} (X : CallFix p m c cX8_fence 5 s args TT RX8) (M : Mt meth (some .int)) (hk29 : ∀ (mem : Mm) (x1 : Int32) (x2 : Int32) (x3 : Int32) (x4 : Int32) (H : Heap) (locs : List Loc) (ls : Array Slot) , Wd D ca ad (layC cap) (AF ad s.heap.size) s.heap s mem H locs → lv_has ls 5 [(0, .ref (ad 0)), (1, .int x1), (2, .int x2), (3, .int x3), (4, .int x4)] → k29 mem x1 x2 x3 x4 = some (cap', mem', r) → W p l e ({ frames := 5, cells := 2, slots := 1024, locals := 108 }) s m args below meth c H locs 0 0 (EndF D ca ad cap' mem' r below args s) (F0 m 29 ls []))  (w : Wd D ca ad (layC cap) (AF ad s.heap.size) s.heap s mem H locs) (hl : lv_has ls 5 [(0, .ref (ad 0)), (1, .int x1), (2, .int x2), (3, .int x3), (4, .int x4)]) (h : fX8_fence_b63 cap k29 mem x1 x2 x3 x4 = some (cap', mem', r)) : W p l e ({ frames := 5, cells := 2, slots := 1024, locals := 108 }) s m args below meth c H locs 0 0 (EndF D ca ad cap' mem' r below args s) (F0 m 63 ls []) := by
  unfold fX8_fence_b63 at h
  refine lv_aload_n X.1 X.2.1 dX8_fence_63 rfl (lv_at hl 0 rfl) ?_
  refine r_getr (b2 := 23) X w lyC_0 rfl inT8 5 rfl rfl (by decide) rfl tw_317 dX8_fence_64 ?_
  refine lv_iload X.1 X.2.1 dX8_fence_67 (lv_at hl 4 rfl) ?_
  obtain ⟨hi1, h⟩ := gd_some h
  obtain ⟨b2, eb2, h⟩ := lkN_some h
  refine r_aald X w (t := 3) lyC_23 rfl hi1 eb2 dX8_fence_69 ?_
  have hb2 : isWk b2 := isWk_of hi1 eb2
  obtain ⟨m4, r3, hr3, h⟩ := bw_some h
  refine r_cVv (As := []) (rest := []) X w (lyWk hb2) rfl (kX6_abort (cap := cap) l D ca ad mem b2 hb2 hr3) (gTV tw_426 tw_427 tw_428 tw_70 tw_429) hdX6_abort (by decide) rfl hl.1 rfl (Nat.le_of_ble_eq_true rfl) dX8_fence_70 ⟨Nat.zero_le _, Nat.zero_le _⟩ (fun H locs w => ?_)
  refine lv_iinc (v := (x4 + (1 : Int32))) (lv' := [(4, .int (x4 + (1 : Int32))), (0, .ref (ad 0)), (1, .int x1), (2, .int x2), (3, .int x3)]) X.1 X.2.1 dX8_fence_73 hl (k := 4) rfl rfl (by decide) rfl (fun ls hl => ?_)
  refine lv_goto (tgt := 29) X.1 X.2.1 dX8_fence_76 (by decide) ?_
  exact hk29 _ _ _ _ _ H locs ls w (lv_sub hl [1, 2, 3, 4, 0] rfl) h
def fX8_fence_b29_s (cap : Nat)  (k29 : Mm → Int32 → Int32 → Int32 → Int32 → Option (Nat × Mm × Int32)) (mem : Mm) (x1 : Int32) (x2 : Int32) (x3 : Int32) (x4 : Int32) : Option (Nat × Mm × Int32) :=
  if (4 : Int32) ≤ x4 then bn (fX1_noteAddress cap mem x2 x1 (mem 37 2)) (fun cap2 m9 => bw (fX5_dropAddress m9 7 x3 x1) (fun m3 r2 => bw (fX5_dropAddress m3 15 x3 x1) (fun m5 r4 => some (cap2, m5, (r2 + r4))))) else gd x4 4 (lkN (23 + 1 + 2 * x4.toNatClampNeg) (fun b7 => if (mem b7 4) = x3 then fX8_fence_b63 cap k29 mem x1 x2 x3 x4 else gd x4 4 (lkN (23 + 1 + 2 * x4.toNatClampNeg) (fun b10 => if (mem b10 1) = x1 then fX8_fence_b63 cap k29 mem x1 x2 x3 x4 else k29 mem x1 x2 x3 (x4 + (1 : Int32))))))
def fX8_fence_b29 (cap : Nat)  : Nat → Mm → Int32 → Int32 → Int32 → Int32 → Option (Nat × Mm × Int32)
  | 0 => fun _ _ _ _ _ => none
  | n + 1 => fX8_fence_b29_s cap  (fX8_fence_b29 cap  n)
set_option maxRecDepth 100000 in
set_option maxHeartbeats 4000000 in
theorem wX8_fence_b29_s {p : Program} {l : Launch} {e : Env} {s : State} {m : MethodId} {args : Array Value} {below : List Frame} {meth : Method} {c : Code} {D : va_G} {ca : Nat → ClassId} {ad : Nat → Nat} {cap : Nat} {H : Heap} {locs : List Loc} {ls : Array Slot} {mem : Mm} {x1 : Int32} {x2 : Int32} {x3 : Int32} {x4 : Int32}  {k29 : Mm → Int32 → Int32 → Int32 → Int32 → Option (Nat × Mm × Int32)} {cap' : Nat} {mem' : Mm} {r : Int32} (X : CallFix p m c cX8_fence 5 s args TT RX8) (M : Mt meth (some .int))  (hk29 : ∀ (mem : Mm) (x1 : Int32) (x2 : Int32) (x3 : Int32) (x4 : Int32) (H : Heap) (locs : List Loc) (ls : Array Slot) , Wd D ca ad (layC cap) (AF ad s.heap.size) s.heap s mem H locs → lv_has ls 5 [(0, .ref (ad 0)), (1, .int x1), (2, .int x2), (3, .int x3), (4, .int x4)] → k29 mem x1 x2 x3 x4 = some (cap', mem', r) → W p l e ({ frames := 5, cells := 2, slots := 1024, locals := 108 }) s m args below meth c H locs 0 0 (EndF D ca ad cap' mem' r below args s) (F0 m 29 ls []))  (w : Wd D ca ad (layC cap) (AF ad s.heap.size) s.heap s mem H locs) (hl : lv_has ls 5 [(0, .ref (ad 0)), (1, .int x1), (2, .int x2), (3, .int x3), (4, .int x4)]) (h : fX8_fence_b29_s cap  k29 mem x1 x2 x3 x4 = some (cap', mem', r)) : W p l e ({ frames := 5, cells := 2, slots := 1024, locals := 108 }) s m args below meth c H locs 0 0 (EndF D ca ad cap' mem' r below args s) (F0 m 29 ls []) := by
  unfold fX8_fence_b29_s at h
  refine lv_iload X.1 X.2.1 dX8_fence_29 (lv_at hl 4 rfl) ?_
  refine lv_iconst (v := (4 : Int32)) X.1 X.2.1 dX8_fence_31 (by decide) ?_
  refine lv_icmp_ge (tgt := 79) X.1 X.2.1 dX8_fence_32 (by decide) (fun c1 => ?_) (fun c1 => ?_)
  · rw [if_pos c1] at h
    refine lv_aload_n X.1 X.2.1 dX8_fence_79 rfl (lv_at hl 0 rfl) ?_
    refine r_getr (b2 := 40) X w lyC_0 rfl inT8 9 rfl rfl (by decide) rfl tw_321 dX8_fence_80 ?_
    refine lv_iload_n X.1 X.2.1 dX8_fence_83 rfl (lv_at hl 2 rfl) ?_
    refine lv_iload_n X.1 X.2.1 dX8_fence_84 rfl (lv_at hl 1 rfl) ?_
    refine lv_aload_n X.1 X.2.1 dX8_fence_85 rfl (lv_at hl 0 rfl) ?_
    refine r_getr (b2 := 37) X w lyC_0 rfl inT8 8 rfl rfl (by decide) rfl tw_320 dX8_fence_86 ?_
    refine r_get X w lyC_37 rfl inT0 2 rfl (by decide) rfl tw_270 dX8_fence_89 ?_
    obtain ⟨cap2, m9, hr9, h⟩ := bn_some h
    refine r_cNote (rest := []) X w hr9 (gTV tw_607 tw_608 tw_609 tw_73 tw_610) ⟨Nat.le_of_ble_eq_true rfl, Nat.le_of_ble_eq_true rfl⟩ hl.1 (Nat.le_of_ble_eq_true rfl) dX8_fence_92 ⟨Nat.le_of_ble_eq_true rfl, Nat.le_of_ble_eq_true rfl⟩ (fun u H locs hag w => ?_)
    replace hl : lv_has ls 5 [(0, .ref (u 0)), (1, .int x1), (2, .int x2), (3, .int x3), (4, .int x4)] := by rw [hag.1 0 (by decide) (by decide)]; exact hl
    refine lv_aload_n X.1 X.2.1 dX8_fence_95 rfl (lv_at hl 0 rfl) ?_
    refine r_getr (b2 := 7) X w lyC_0 rfl inT8 3 rfl rfl (by decide) rfl tw_315 dX8_fence_96 ?_
    refine lv_iload_n X.1 X.2.1 dX8_fence_99 rfl (lv_at hl 3 rfl) ?_
    refine lv_iload_n X.1 X.2.1 dX8_fence_100 rfl (lv_at hl 1 rfl) ?_
    obtain ⟨m3, r2, hr2, h⟩ := bw_some h
    refine r_cVi (As := [.int x3, .int x1]) (rest := []) X w lyC_7 rfl (kX5_dropAddress (cap := cap2) l D ca u m9 7 x3 x1 isSt7 hr2) (gTV tw_631 tw_632 tw_633 tw_68 tw_634) hdX5_dropAddress (by decide) rfl hl.1 rfl (Nat.le_of_ble_eq_true rfl) dX8_fence_101 ⟨Nat.le_of_ble_eq_true rfl, Nat.le_of_ble_eq_true rfl⟩ (fun H locs w => ?_)
    refine lv_aload_n X.1 X.2.1 dX8_fence_104 rfl (lv_at hl 0 rfl) ?_
    refine r_getr (b2 := 15) X w lyC_0 rfl inT8 4 rfl rfl (by decide) rfl tw_316 dX8_fence_105 ?_
    refine lv_iload_n X.1 X.2.1 dX8_fence_108 rfl (lv_at hl 3 rfl) ?_
    refine lv_iload_n X.1 X.2.1 dX8_fence_109 rfl (lv_at hl 1 rfl) ?_
    obtain ⟨m5, r4, hr4, h⟩ := bw_some h
    refine r_cVi (As := [.int x3, .int x1]) (rest := [.int r2]) X w lyC_15 rfl (kX5_dropAddress (cap := cap2) l D ca u m3 15 x3 x1 isSt15 hr4) (gTV tw_631 tw_632 tw_633 tw_68 tw_634) hdX5_dropAddress (by decide) rfl hl.1 rfl (Nat.le_of_ble_eq_true rfl) dX8_fence_110 ⟨Nat.le_of_ble_eq_true rfl, Nat.le_of_ble_eq_true rfl⟩ (fun H locs w => ?_)
    refine lv_iadd X.1 X.2.1 dX8_fence_113 ?_
    obtain ⟨rfl, h1⟩ := Prod.mk.inj (Option.some.inj h)
    obtain ⟨rfl, rfl⟩ := Prod.mk.inj h1
    exact r_iretF X M (Nat.le_refl _) (Nat.le_refl _) hag w dX8_fence_114
  · rw [if_neg c1] at h
    refine lv_aload_n X.1 X.2.1 dX8_fence_35 rfl (lv_at hl 0 rfl) ?_
    refine r_getr (b2 := 23) X w lyC_0 rfl inT8 5 rfl rfl (by decide) rfl tw_317 dX8_fence_36 ?_
    refine lv_iload X.1 X.2.1 dX8_fence_39 (lv_at hl 4 rfl) ?_
    obtain ⟨hi6, h⟩ := gd_some h
    obtain ⟨b7, eb7, h⟩ := lkN_some h
    refine r_aald X w (t := 3) lyC_23 rfl hi6 eb7 dX8_fence_41 ?_
    have hb7 : isWk b7 := isWk_of hi6 eb7
    refine r_get X w (lyWk hb7) rfl inT6 4 rfl (by decide) rfl tw_194 dX8_fence_42 ?_
    refine lv_iload_n X.1 X.2.1 dX8_fence_45 rfl (lv_at hl 3 rfl) ?_
    refine lv_icmp_eq (tgt := 63) X.1 X.2.1 dX8_fence_46 (by decide) (fun c8 => ?_) (fun c8 => ?_)
    · rw [if_pos c8] at h
      exact wX8_fence_b63 X M hk29 w (lv_sub hl [0, 1, 2, 3, 4] rfl) h
    · rw [if_neg c8] at h
      refine lv_aload_n X.1 X.2.1 dX8_fence_49 rfl (lv_at hl 0 rfl) ?_
      refine r_getr (b2 := 23) X w lyC_0 rfl inT8 5 rfl rfl (by decide) rfl tw_317 dX8_fence_50 ?_
      refine lv_iload X.1 X.2.1 dX8_fence_53 (lv_at hl 4 rfl) ?_
      obtain ⟨hi9, h⟩ := gd_some h
      obtain ⟨b10, eb10, h⟩ := lkN_some h
      refine r_aald X w (t := 3) lyC_23 rfl hi9 eb10 dX8_fence_55 ?_
      have hb10 : isWk b10 := isWk_of hi9 eb10
      refine r_get X w (lyWk hb10) rfl inT6 1 rfl (by decide) rfl tw_188 dX8_fence_56 ?_
      refine lv_iload_n X.1 X.2.1 dX8_fence_59 rfl (lv_at hl 1 rfl) ?_
      refine lv_icmp_ne (tgt := 73) X.1 X.2.1 dX8_fence_60 (by decide) (fun c11 => ?_) (fun c11 => ?_)
      · rw [if_neg c11] at h
        refine lv_iinc (v := (x4 + (1 : Int32))) (lv' := [(4, .int (x4 + (1 : Int32))), (0, .ref (ad 0)), (1, .int x1), (2, .int x2), (3, .int x3)]) X.1 X.2.1 dX8_fence_73 hl (k := 4) rfl rfl (by decide) rfl (fun ls hl => ?_)
        refine lv_goto (tgt := 29) X.1 X.2.1 dX8_fence_76 (by decide) ?_
        exact hk29 _ _ _ _ _ H locs ls w (lv_sub hl [1, 2, 3, 4, 0] rfl) h
      · rw [if_pos c11] at h
        exact wX8_fence_b63 X M hk29 w (lv_sub hl [0, 1, 2, 3, 4] rfl) h
set_option maxRecDepth 100000 in
set_option maxHeartbeats 4000000 in
theorem wX8_fence_b29 {p : Program} {l : Launch} {e : Env} {s : State} {m : MethodId} {args : Array Value} {below : List Frame} {meth : Method} {c : Code} {D : va_G} {ca : Nat → ClassId} {ad : Nat → Nat} {cap : Nat}  {cap' : Nat} {mem' : Mm} {r : Int32} (X : CallFix p m c cX8_fence 5 s args TT RX8) (M : Mt meth (some .int))  : ∀ (n : Nat) (mem : Mm) (x1 : Int32) (x2 : Int32) (x3 : Int32) (x4 : Int32) (H : Heap) (locs : List Loc) (ls : Array Slot)  (_ : Wd D ca ad (layC cap) (AF ad s.heap.size) s.heap s mem H locs) (_ : lv_has ls 5 [(0, .ref (ad 0)), (1, .int x1), (2, .int x2), (3, .int x3), (4, .int x4)]) (_ : fX8_fence_b29 cap  n mem x1 x2 x3 x4 = some (cap', mem', r)), W p l e ({ frames := 5, cells := 2, slots := 1024, locals := 108 }) s m args below meth c H locs 0 0 (EndF D ca ad cap' mem' r below args s) (F0 m 29 ls []) := by
  intro n
  induction n with
  | zero => intro mem x1 x2 x3 x4 H locs ls  w hl h; exact (nofun : (none : Option (Nat × Mm × Int32)) = _ → _) h
  | succ n ih => intro mem x1 x2 x3 x4 H locs ls  w hl h; exact wX8_fence_b29_s X M  ih  w hl h
def fX8_fence (cap : Nat) (mem : Mm) (a1 : Int32) (a2 : Int32) : Option (Nat × Mm × Int32) :=
  if (fX8_isAddress a1) = 0 then some (cap, mem, (-1 : Int32)) else if (fX8_isSpace a2) = 0 then some (cap, mem, (-1 : Int32)) else gd a2 6 (lk (mem 5 a2.toNatClampNeg) (fun x_4 => fX8_fence_b29 cap 2000 mem a1 a2 x_4 (0 : Int32)))
set_option maxRecDepth 100000 in
set_option maxHeartbeats 4000000 in
theorem kX8_fence {cap : Nat} (l : Launch) (D : va_G) (ca : Nat → ClassId) (ad : Nat → Nat) (sz : Nat) (mem : Mm) (a1 : Int32) (a2 : Int32) {cap' : Nat} {mem' : Mm} {r : Int32} (h : fX8_fence cap mem a1 a2 = some (cap', mem', r)) : CtY l yX8_fence cX8_fence 5 (some .int) ({ frames := 5, cells := 2, slots := 1024, locals := 108 }) D ca ad sz cap mem [.ref (ad 0), .int a1, .int a2] cap' mem' r := by
  refine CtY.of (by decide) (Nat.le_of_ble_eq_true rfl) ?_
  intro p e s m args below meth c H locs ls X M w hl
  replace X : CallFix p m c cX8_fence 5 s args TT RX8 := X
  replace hl : lv_has ls 5 [(0, .ref (ad 0)), (1, .int a1), (2, .int a2)] := hl
  unfold fX8_fence at h
  refine lv_iload_n X.1 X.2.1 dX8_fence_0 rfl (lv_at hl 1 rfl) ?_
  refine r_cSi (As := [.int a1]) (rest := []) X w (kX8_isAddress (cap := cap) l D ca ad mem a1  rfl) (gTS tw_446 tw_447 tw_65 tw_448) hdX8_isAddress (by decide) rfl hl.1 rfl (Nat.le_of_ble_eq_true rfl) dX8_fence_1 ⟨Nat.zero_le _, Nat.zero_le _⟩ (fun H locs w => ?_)
  refine lv_if_eq (tgt := 14) X.1 X.2.1 dX8_fence_4 (by decide) (fun c1 => ?_) (fun c1 => ?_)
  · rw [if_pos c1] at h
    refine lv_iconst (v := (-1 : Int32)) X.1 X.2.1 dX8_fence_14 (by decide) ?_
    obtain ⟨rfl, h1⟩ := Prod.mk.inj (Option.some.inj h)
    obtain ⟨rfl, rfl⟩ := Prod.mk.inj h1
    exact r_iretF X M (Nat.zero_le _) (Nat.zero_le _) Ag.rf w dX8_fence_15
  · rw [if_neg c1] at h
    refine lv_iload_n X.1 X.2.1 dX8_fence_7 rfl (lv_at hl 2 rfl) ?_
    refine r_cSi (As := [.int a2]) (rest := []) X w (kX8_isSpace (cap := cap) l D ca ad mem a2  rfl) (gTS tw_392 tw_393 tw_65 tw_394) hdX8_isSpace (by decide) rfl hl.1 rfl (Nat.le_of_ble_eq_true rfl) dX8_fence_8 ⟨Nat.zero_le _, Nat.zero_le _⟩ (fun H locs w => ?_)
    refine lv_if_ne (tgt := 16) X.1 X.2.1 dX8_fence_11 (by decide) (fun c2 => ?_) (fun c2 => ?_)
    · rw [if_neg c2] at h
      refine lv_aload_n X.1 X.2.1 dX8_fence_16 rfl (lv_at hl 0 rfl) ?_
      refine r_getr (b2 := 3) X w lyC_0 rfl inT8 2 rfl rfl (by decide) rfl tw_314 dX8_fence_17 ?_
      refine r_getr (b2 := 5) X w lyC_3 rfl inT4 1 rfl rfl (by decide) rfl tw_103 dX8_fence_20 ?_
      refine lv_iload_n X.1 X.2.1 dX8_fence_23 rfl (lv_at hl 2 rfl) ?_
      obtain ⟨hi3, h⟩ := gd_some h
      refine r_iald X w lyC_5 hi3 dX8_fence_24 ?_
      obtain ⟨x_4, ex_4, h⟩ := lk_some h
      refine lv_name ex_4 ?_
      refine lv_istore_n (lv' := [(3, .int x_4), (0, .ref (ad 0)), (1, .int a1), (2, .int a2)]) X.1 X.2.1 dX8_fence_25 rfl hl (by decide) rfl (fun ls hl => ?_)
      refine lv_iconst (v := (0 : Int32)) X.1 X.2.1 dX8_fence_26 (by decide) ?_
      refine lv_istore (lv' := [(4, .int (0 : Int32)), (3, .int x_4), (0, .ref (ad 0)), (1, .int a1), (2, .int a2)]) X.1 X.2.1 dX8_fence_27 hl (by decide) rfl (fun ls hl => ?_)
      exact wX8_fence_b29 X M _ _ _ _ _ _ H locs ls w (lv_sub hl [2, 3, 4, 1, 0] rfl) h
    · rw [if_pos c2] at h
      refine lv_iconst (v := (-1 : Int32)) X.1 X.2.1 dX8_fence_14 (by decide) ?_
      obtain ⟨rfl, h1⟩ := Prod.mk.inj (Option.some.inj h)
      obtain ⟨rfl, rfl⟩ := Prod.mk.inj h1
      exact r_iretF X M (Nat.zero_le _) (Nat.zero_le _) Ag.rf w dX8_fence_15
