/-! WalkHouse$Fences.noteAddress(III)V (W) -/
theorem hdX1_noteAddress : yX1_noteAddress.cls = RX1 ∧ yX1_noteAddress.cls ≠ "java/lang/invoke/MethodHandle" ∧ yX1_noteAddress.cls ≠ "java/lang/invoke/VarHandle" ∧ (parseMethodDescriptor yX1_noteAddress.desc).map (fun d => d.parameters.length) = some 3 := by decide +kernel
def fX1_noteAddress_b80 (cap : Nat)  (mem : Mm) (x3 : Int32) (x4 : Int32) : Option (Nat × Mm) :=
  lk (mem 40 4) (fun x_1 => wk mem 40 4 ((mem 40 4) + (1 : Int32)) (fun m2 => gd x_1 cap (wk m2 42 x_1.toNatClampNeg x4 (fun m4 => gd x_1 cap (wk m4 43 x_1.toNatClampNeg x3 (fun m6 => some (cap, m6)))))))
set_option maxRecDepth 100000 in
set_option maxHeartbeats 4000000 in
theorem wX1_noteAddress_b80 {p : Program} {l : Launch} {e : Env} {s : State} {m : MethodId} {args : Array Value} {below : List Frame} {meth : Method} {c : Code} {D : va_G} {ca : Nat → ClassId} {ad0 ad : Nat → Nat} {cap cells slots : Nat} {H : Heap} {locs : List Loc} {ls : Array Slot} {mem : Mm} {x3 : Int32} {x4 : Int32}  {cap' : Nat} {mem' : Mm} (X : CallFix p m c cX1_noteAddress 6 s args TT RX1) (M : Mt meth none) (hc9 : cells ≤ 2) (hs9 : slots ≤ 1024) (hag : Ag ad0 ad s.heap.size)   (w : Wd D ca ad (layC cap) (AF ad0 s.heap.size) s.heap s mem H locs) (hl : lv_has ls 6 [(0, .ref (ad 40)), (3, .int x3), (4, .int x4)]) (h : fX1_noteAddress_b80 cap  mem x3 x4 = some (cap', mem')) : W p l e ({ frames := 2, cells := 2, slots := 1024, locals := 46 }) s m args below meth c H locs cells slots (EndN D ca ad0 cap' mem' below args s) (F0 m 80 ls []) := by
  unfold fX1_noteAddress_b80 at h
  refine lv_aload_n X.1 X.2.1 dX1_noteAddress_80 rfl (lv_at hl 0 rfl) ?_
  refine r_get X w lyC_40 rfl inT1 4 rfl (by decide) rfl tw_290 dX1_noteAddress_81 ?_
  obtain ⟨x_1, ex_1, h⟩ := lk_some h
  refine lv_name ex_1 ?_
  refine lv_istore (lv' := [(5, .int x_1), (0, .ref (ad 40)), (3, .int x3), (4, .int x4)]) X.1 X.2.1 dX1_noteAddress_84 hl (by decide) rfl (fun ls hl => ?_)
  refine lv_aload_n X.1 X.2.1 dX1_noteAddress_86 rfl (lv_at hl 1 rfl) ?_
  refine lv_dup X.1 X.2.1 dX1_noteAddress_87 rfl ?_
  refine r_get X w lyC_40 rfl inT1 4 rfl (by decide) rfl tw_290 dX1_noteAddress_88 ?_
  refine lv_iconst (v := (1 : Int32)) X.1 X.2.1 dX1_noteAddress_91 (by decide) ?_
  refine lv_iadd X.1 X.2.1 dX1_noteAddress_92 ?_
  refine r_put X w lyC_40 rfl inT1 tyX1 tyX1_ok nmX1 4 rfl (by decide) rfl rfl tw_290 rfl rfl dX1_noteAddress_93 (fun H locs w => ?_)
  obtain ⟨m2, em2, h⟩ := wk_some h
  rw [em2] at w
  refine lv_aload_n X.1 X.2.1 dX1_noteAddress_96 rfl (lv_at hl 1 rfl) ?_
  refine r_getr (b2 := 42) X w lyC_40 rfl inT1 2 rfl rfl (by decide) rfl tw_288 dX1_noteAddress_97 ?_
  refine lv_iload X.1 X.2.1 dX1_noteAddress_100 (lv_at hl 0 rfl) ?_
  refine lv_iload X.1 X.2.1 dX1_noteAddress_102 (lv_at hl 3 rfl) ?_
  obtain ⟨hi3, h⟩ := gd_some h
  refine r_iast X w lyC_42 hi3 dX1_noteAddress_104 (fun H locs w => ?_)
  obtain ⟨m4, em4, h⟩ := wk_some h
  rw [em4] at w
  refine lv_aload_n X.1 X.2.1 dX1_noteAddress_105 rfl (lv_at hl 1 rfl) ?_
  refine r_getr (b2 := 43) X w lyC_40 rfl inT1 3 rfl rfl (by decide) rfl tw_289 dX1_noteAddress_106 ?_
  refine lv_iload X.1 X.2.1 dX1_noteAddress_109 (lv_at hl 0 rfl) ?_
  refine lv_iload_n X.1 X.2.1 dX1_noteAddress_111 rfl (lv_at hl 2 rfl) ?_
  obtain ⟨hi5, h⟩ := gd_some h
  refine r_iast X w lyC_43 hi5 dX1_noteAddress_112 (fun H locs w => ?_)
  obtain ⟨m6, em6, h⟩ := wk_some h
  rw [em6] at w
  obtain ⟨rfl, rfl⟩ := Prod.mk.inj (Option.some.inj h)
  exact r_vretN X M hc9 hs9 hag w dX1_noteAddress_113
/-- a contract of a method that may grow the two arrays -/
def CtZ (l : Launch) (y : MethodName) (bytes : ByteArray) (maxL : Nat) (ret : Option FieldType) (rm : Room) (D : va_G) (ca : Nat → ClassId) (ad : Nat → Nat) (sz cap : Nat) (mem : Mm) (av : List Value) (cap' : Nat) (mem' : Mm) : Prop :=
  Met l y (wsT y bytes maxL ret) rm (va_Pc av (fun U => U.heap.size = sz ∧ va_P D vwCl (wd ca ad mem (layC cap)) U.heap ∧ Kx D ca U ∧ Dj ad 46)) (va_Qv (fun u => Ag ad u sz) (fun u t => va_P D vwCl (wd ca u mem' (layC cap')) t.heap ∧ Dj u 46) (AF ad sz)) 2 1024 (AF ad sz)
theorem CtZ.of {l : Launch} {y : MethodName} {cc : ByteArray} {maxL : Nat} {ret : Option FieldType} {rm : Room} {D : va_G} {ca : Nat → ClassId} {ad : Nat → Nat} {sz cap : Nat} {mem : Mm} {av : List Value} {cap' : Nat} {mem' : Mm} (hy : plainName y.cls = true) (hle : (lg_sl av).length ≤ maxL)
    (body : ∀ p e s m args below meth c H locs ls, CallFix p m c cc maxL s args TT y.cls → Mt meth ret → Wd D ca ad (layC cap) (AF ad s.heap.size) s.heap s mem H locs → lv_has ls maxL (lv_args 0 av) → W p l e rm s m args below meth c H locs 0 0 (EndN D ca ad cap' mem' below args s) (F0 m 0 ls [])) : CtZ l y cc maxL ret rm D ca ad sz cap mem av cap' mem' := by
  refine Met.ofW (cc := cc) (maxL := maxL) (ret := ret) hy rfl ?_
  intro p e s m args below meth c s₁ B hml hv
  obtain ⟨rfl, hsz, hP, hK, hD⟩ := hv
  subst hsz
  have hl := lv_entry av (n := maxL) hle
  rw [lg_entry_eq]
  exact body p e s m _ below meth c s.heap [] _ ⟨B.exec, B.bytes, hml, findClass_of_methodNamed B.named, fun w h => atoms_spec (ws := wsT y cc maxL ret) B.pre w (List.mem_cons_of_mem _ h)⟩ ⟨B.returns, B.notSynchronized⟩ ⟨hP, va_S.rf, ⟨hD, fun _ h => Or.inl h⟩, hK⟩ hl
set_option maxRecDepth 100000 in
set_option maxHeartbeats 4000000 in
theorem wX1_note_46 {p : Program} {l : Launch} {e : Env} {s : State} {m : MethodId} {args : Array Value} {below : List Frame} {meth : Method} {c : Code} {D : va_G} {ca : Nat → ClassId} {ad : Nat → Nat} {cap : Nat} {H : Heap} {locs : List Loc} {ls : Array Slot} {mem : Mm} {x1 x2 x3 x4 x5 : Int32} {Q : State → Prop} (X : CallFix p m c cX1_noteAddress 6 s args TT RX1) (hcap : 0 < cap ∧ cap ≤ 256) (c7 : mem 40 4 = Int32.ofNat cap) (w : Wd D ca ad (layC cap) (AF ad s.heap.size) s.heap s mem H locs) (hl : lv_has ls 6 [(5, .int x5), (4, .int x4), (0, .ref (ad 40)), (1, .int x1), (2, .int x2), (3, .int x3)])
    (kk : ∀ (u : Nat → Nat) (H : Heap) (locs : List Loc) (ls : Array Slot), Ag ad u s.heap.size → Wd D ca u (layC (2 * cap)) (AF ad s.heap.size) s.heap s (grm cap mem) H locs → lv_has ls 6 [(0, .ref (u 40)), (3, .int x3), (4, .int x4)] → W p l e ({ frames := 2, cells := 2, slots := 1024, locals := 46 }) s m args below meth c H locs 2 (2 * cap + 2 * cap) Q (F0 m 80 ls [])) : W p l e ({ frames := 2, cells := 2, slots := 1024, locals := 46 }) s m args below meth c H locs 0 0 Q (F0 m 46 ls []) := by
  have e40 : (wd ca ad mem (layC cap))[40]? = some (ad 40, .inr (1, [.ref (ad 41), .int (mem 40 1), .ref (ad 42), .ref (ad 43), .int (mem 40 4)])) := by
    rw [wd_get lyC_40]
    simp [ce, fv, List.mapIdx_cons]
  have e42 : (wd ca ad mem (layC cap))[42]? = some (ad 42, .inl (ca 0, cap, .inl (mem 42))) := wd_get lyC_42
  have e43 : (wd ca ad mem (layC cap))[43]? = some (ad 43, .inl (ca 0, cap, .inl (mem 43))) := wd_get lyC_43
  have hlen : (wd ca ad mem (layC cap)).length = 46 := by rw [wd_len, lyC_len]
  obtain ⟨ws, hws⟩ : ∃ z, wd ca ad mem (layC cap) = z := ⟨_, rfl⟩
  have ekk : ∀ k, k < 46 → k ≠ 40 → ws[k]? = (wd ca ad mem (layC cap))[k]? := fun _ _ _ => by rw [hws]
  have hmul : mem 40 4 * 2 = nI (2 * cap) := by
    rw [c7]
    exact nI_dbl cap
  have hA : ∀ q : Nat, s.heap.size ≤ q → AF ad s.heap.size q := fun q h => Or.inr h
  have hD := wd_D (ca := ca) (m := mem) w.2.2.1.1 w.2.2.1.2
  have hP := w.1
  have hS := w.2.1
  have hK := w.2.2.2
  have hDj := w.2.2.1.1
  rw [lyC_len] at hDj
  rw [hws] at hP hD e40 e42 e43 hlen
  refine lv_aload_n X.1 X.2.1 dX1_noteAddress_46 rfl (lv_at hl 2 rfl) ?_
  refine lv_aload_n X.1 X.2.1 dX1_noteAddress_47 rfl (lv_at hl 2 rfl) ?_
  refine va_get (D := D) (cl := vwCl) (T := TX1) X.1 X.2.1 X.2.2.2.2 inT1 X.2.2.2.1 hK.1 hP 40 e40 rfl 2 (by decide) (X.2.2.2.2 _ tw_288) (fun _ h => h) rfl dX1_noteAddress_48 ?_
  refine lv_aload_n X.1 X.2.1 dX1_noteAddress_51 rfl (lv_at hl 2 rfl) ?_
  refine va_get (D := D) (cl := vwCl) (T := TX1) X.1 X.2.1 X.2.2.2.2 inT1 X.2.2.2.1 hK.1 hP 40 e40 rfl 4 (by decide) (X.2.2.2.2 _ tw_290) (fun _ h => h) rfl dX1_noteAddress_52 ?_
  refine lv_iconst (v := (2 : Int32)) X.1 X.2.1 dX1_noteAddress_55 (by decide) ?_
  refine lv_imul X.1 X.2.1 dX1_noteAddress_56 ?_
  refine lv_name hmul ?_
  refine r_copy X hP hD hS hA hK 42 e42 (2 * cap) (nI_pos (by omega)) (nI_clamp (by omega)) (by omega) (by omega) (gTS tw_615 tw_616 tw_67 tw_617) ⟨Nat.le_of_ble_eq_true rfl, Nat.le_of_ble_eq_true rfl⟩ hl.1 (Nat.le_of_ble_eq_true rfl) dX1_noteAddress_57 ⟨Nat.le_of_ble_eq_true rfl, by show _ + 2 * cap ≤ 1024; omega⟩ (fun q1 H locs hq1 hP hD hS => ?_)
  have e40 : (ws ++ [(q1, .inl (ca 0, 2 * cap, .inl (va_cpy (mem 42) (fun _ => 0) 0 0 cap)))])[40]? = some (ad 40, .inr (1, [.ref (ad 41), .int (mem 40 1), .ref (ad 42), .ref (ad 43), .int (mem 40 4)])) := by rw [List.getElem?_append_left (by omega)]; exact e40
  refine va_put (D := D) (cl := vwCl) (T := TX1) X.1 X.2.1 X.2.2.2.2 inT1 tyX1 tyX1_ok nmX1 X.2.2.2.1 hK.1 hP hD hS 40 e40 rfl 2 (by decide) (X.2.2.2.2 _ tw_288) (fun _ h => h) rfl (tyX1_ok 2 (by decide)) rfl rfl (Nat.le_of_ble_eq_true rfl) dX1_noteAddress_60 (fun H locs hP hD hS => ?_)
  obtain ⟨ws1, hws1⟩ : ∃ z, (ws ++ [((q1, .inl (ca 0, 2 * cap, .inl (va_cpy (mem 42) (fun _ => 0) 0 0 cap))) : Nat × va_E)]).set 40 (ad 40, .inr (1, [.ref (ad 41), .int (mem 40 1), .ref q1, .ref (ad 43), .int (mem 40 4)])) = z := ⟨_, rfl⟩
  have e46 : ws1[46]? = some (q1, .inl (ca 0, 2 * cap, .inl (va_cpy (mem 42) (fun _ => 0) 0 0 cap))) := by rw [← hws1, List.getElem?_set_ne (by decide), List.getElem?_append_right (by omega), hlen]; rfl
  have e40 : ws1[40]? = some (ad 40, .inr (1, [.ref (ad 41), .int (mem 40 1), .ref q1, .ref (ad 43), .int (mem 40 4)])) := by rw [← hws1, List.getElem?_set_self (by rw [List.length_append, hlen]; exact Nat.le_of_ble_eq_true rfl)]
  have e43 : ws1[43]? = some (ad 43, .inl (ca 0, cap, .inl (mem 43))) := by rw [← hws1, List.getElem?_set_ne (by decide), List.getElem?_append_left (by omega)]; exact e43
  have ekk : ∀ k, k < 46 → k ≠ 40 → ws1[k]? = (wd ca ad mem (layC cap))[k]? := fun k hk h0 => by rw [← hws1, List.getElem?_set_ne (fun z => h0 z.symm), List.getElem?_append_left (by omega)]; exact ekk k hk h0
  have hlen : ws1.length = 47 := by rw [← hws1, List.length_set, List.length_append, hlen]; rfl
  replace hP : va_P D vwCl ws1 H := hws1 ▸ hP
  replace hD : va_D (AF ad s.heap.size) ws1 := hws1 ▸ hD
  refine lv_aload_n X.1 X.2.1 dX1_noteAddress_63 rfl (lv_at hl 2 rfl) ?_
  refine lv_aload_n X.1 X.2.1 dX1_noteAddress_64 rfl (lv_at hl 2 rfl) ?_
  refine va_get (D := D) (cl := vwCl) (T := TX1) X.1 X.2.1 X.2.2.2.2 inT1 X.2.2.2.1 hK.1 hP 40 e40 rfl 3 (by decide) (X.2.2.2.2 _ tw_289) (fun _ h => h) rfl dX1_noteAddress_65 ?_
  refine lv_aload_n X.1 X.2.1 dX1_noteAddress_68 rfl (lv_at hl 2 rfl) ?_
  refine va_get (D := D) (cl := vwCl) (T := TX1) X.1 X.2.1 X.2.2.2.2 inT1 X.2.2.2.1 hK.1 hP 40 e40 rfl 4 (by decide) (X.2.2.2.2 _ tw_290) (fun _ h => h) rfl dX1_noteAddress_69 ?_
  refine lv_iconst (v := (2 : Int32)) X.1 X.2.1 dX1_noteAddress_72 (by decide) ?_
  refine lv_imul X.1 X.2.1 dX1_noteAddress_73 ?_
  refine lv_name hmul ?_
  refine r_copy X hP hD hS hA hK 43 e43 (2 * cap) (nI_pos (by omega)) (nI_clamp (by omega)) (by omega) (by omega) (gTS tw_615 tw_616 tw_67 tw_617) ⟨Nat.le_of_ble_eq_true rfl, Nat.le_of_ble_eq_true rfl⟩ hl.1 (Nat.le_of_ble_eq_true rfl) dX1_noteAddress_74 ⟨Nat.le_of_ble_eq_true rfl, by show _ + 2 * cap ≤ 1024; omega⟩ (fun q2 H locs hq2 hP hD hS => ?_)
  have e40 : (ws1 ++ [(q2, .inl (ca 0, 2 * cap, .inl (va_cpy (mem 43) (fun _ => 0) 0 0 cap)))])[40]? = some (ad 40, .inr (1, [.ref (ad 41), .int (mem 40 1), .ref q1, .ref (ad 43), .int (mem 40 4)])) := by rw [List.getElem?_append_left (by omega)]; exact e40
  refine va_put (D := D) (cl := vwCl) (T := TX1) X.1 X.2.1 X.2.2.2.2 inT1 tyX1 tyX1_ok nmX1 X.2.2.2.1 hK.1 hP hD hS 40 e40 rfl 3 (by decide) (X.2.2.2.2 _ tw_289) (fun _ h => h) rfl (tyX1_ok 3 (by decide)) rfl rfl (Nat.le_of_ble_eq_true rfl) dX1_noteAddress_77 (fun H locs hP hD hS => ?_)
  obtain ⟨ws, hws2⟩ : ∃ z, (ws1 ++ [((q2, .inl (ca 0, 2 * cap, .inl (va_cpy (mem 43) (fun _ => 0) 0 0 cap))) : Nat × va_E)]).set 40 (ad 40, .inr (1, [.ref (ad 41), .int (mem 40 1), .ref q1, .ref q2, .int (mem 40 4)])) = z := ⟨_, rfl⟩
  have e46 : ws[46]? = some (q1, .inl (ca 0, 2 * cap, .inl (va_cpy (mem 42) (fun _ => 0) 0 0 cap))) := by rw [← hws2, List.getElem?_set_ne (by decide), List.getElem?_append_left (by omega)]; exact e46
  have e47 : ws[47]? = some (q2, .inl (ca 0, 2 * cap, .inl (va_cpy (mem 43) (fun _ => 0) 0 0 cap))) := by rw [← hws2, List.getElem?_set_ne (by decide), List.getElem?_append_right (by omega), hlen]; rfl
  have e40 : ws[40]? = some (ad 40, .inr (1, [.ref (ad 41), .int (mem 40 1), .ref q1, .ref q2, .int (mem 40 4)])) := by rw [← hws2, List.getElem?_set_self (by rw [List.length_append, hlen]; exact Nat.le_of_ble_eq_true rfl)]
  have ekk : ∀ k, k < 46 → k ≠ 40 → ws[k]? = (wd ca ad mem (layC cap))[k]? := fun k hk h0 => by rw [← hws2, List.getElem?_set_ne (fun z => h0 z.symm), List.getElem?_append_left (by omega)]; exact ekk k hk h0
  replace hP : va_P D vwCl ws H := hws2 ▸ hP
  replace hD : va_D (AF ad s.heap.size) ws := hws2 ▸ hD
  refine W.widen (k := 2) (n := 2 * cap + 2 * cap) (by omega) (by omega) ?_
  have hq12 : Ag ad (va_up (va_up ad 42 q1) 43 q2) s.heap.size := by
    refine ⟨fun b h1 h2 => by simp [va_up, h1, h2], fun b hb => ?_⟩
    by_cases h2 : b = 43
    · subst h2
      exact Or.inr (by simp only [va_up, if_pos]; exact hq2)
    · by_cases h1 : b = 42
      · subst h1
        exact Or.inr (by simp [va_up]; exact hq1)
      · exact Or.inl ⟨b, hb, by simp [va_up, h1, h2]⟩
  have e0 : va_up (va_up ad 42 q1) 43 q2 40 = ad 40 := by simp [va_up]
  refine kk (va_up (va_up ad 42 q1) 43 q2) _ _ _ hq12 ⟨grow_wd hP e40 e46 e47 ekk, hS, ⟨?_, ?_⟩, hK⟩ (by rw [e0]; exact lv_sub hl [2, 5, 1] rfl)
  · rw [lyC_len]
    have at' : ∀ b, b < 46 → ∃ (k : Nat) (q : Nat × va_E), (k = if b = 42 then 46 else if b = 43 then 47 else b) ∧ ws[k]? = some q ∧ q.1 = va_up (va_up ad 42 q1) 43 q2 b := by
      intro b hb
      by_cases h1 : b = 42
      · subst h1
        exact ⟨46, _, rfl, e46, by simp [va_up]⟩
      · by_cases h2 : b = 43
        · subst h2
          exact ⟨47, _, rfl, e47, by simp [va_up]⟩
        · by_cases h3 : b = 40
          · subst h3
            exact ⟨40, _, rfl, e40, by simp [va_up]⟩
          · have hex : ∃ q, (wd ca ad mem (layC cap))[b]? = some q := ⟨_, List.getElem?_eq_getElem (by rw [wd_len, lyC_len]; exact hb)⟩
            obtain ⟨q, hq⟩ := hex
            refine ⟨b, q, by rw [if_neg h1, if_neg h2], (ekk b hb h3).trans hq, ?_⟩
            rw [(wd_at hq).2]
            simp [va_up, h1, h2]
    intro i j hi hj hij
    obtain ⟨k1, p1, f1, g1, t1⟩ := at' i hi
    obtain ⟨k2, p2, f2, g2, t2⟩ := at' j hj
    have hkk := hD.1 k1 k2 p1 p2 g1 g2 (by rw [t1, t2]; exact hij)
    rw [f1, f2] at hkk
    clear f1 f2
    (repeat' split at hkk) <;> omega
  · intro q hq
    obtain ⟨b, hb, rfl⟩ := hq
    rw [lyC_len] at hb
    exact hq12.2 b hb
def fX1_noteAddress (cap : Nat) (mem : Mm) (a1 : Int32) (a2 : Int32) (a3 : Int32) : Option (Nat × Mm) :=
  lk ((a1 * (512 : Int32)) + a2) (fun x_1 => bd (fX1_indexOf cap mem x_1) (fun r2 => if r2 = (-1 : Int32) then if (mem 40 4) < (512 : Int32) then if (mem 40 4) = (Int32.ofNat cap) then ngr cap mem (fun cap2 m9 => fX1_noteAddress_b80 cap2 m9 a3 x_1) else fX1_noteAddress_b80 cap mem a3 x_1 else some (cap, mem) else gd r2 cap (wk mem 43 r2.toNatClampNeg a3 (fun m5 => some (cap, m5)))))
set_option maxRecDepth 100000 in
set_option maxHeartbeats 4000000 in
theorem kX1_noteAddress {cap : Nat} (l : Launch) (D : va_G) (ca : Nat → ClassId) (ad : Nat → Nat) (sz : Nat) (mem : Mm) (a1 : Int32) (a2 : Int32) (a3 : Int32) {cap' : Nat} {mem' : Mm} (h : fX1_noteAddress cap mem a1 a2 a3 = some (cap', mem')) : CtZ l yX1_noteAddress cX1_noteAddress 6 none ({ frames := 2, cells := 2, slots := 1024, locals := 46 }) D ca ad sz cap mem [.ref (ad 40), .int a1, .int a2, .int a3] cap' mem' := by
  refine CtZ.of (by decide) (Nat.le_of_ble_eq_true rfl) ?_
  intro p e s m args below meth c H locs ls X M w hl
  replace X : CallFix p m c cX1_noteAddress 6 s args TT RX1 := X
  replace hl : lv_has ls 6 [(0, .ref (ad 40)), (1, .int a1), (2, .int a2), (3, .int a3)] := hl
  unfold fX1_noteAddress at h
  refine lv_iload_n X.1 X.2.1 dX1_noteAddress_0 rfl (lv_at hl 1 rfl) ?_
  refine lv_sipush (v := (512 : Int32)) X.1 X.2.1 dX1_noteAddress_1 (by decide) ?_
  refine lv_imul X.1 X.2.1 dX1_noteAddress_4 ?_
  refine lv_iload_n X.1 X.2.1 dX1_noteAddress_5 rfl (lv_at hl 2 rfl) ?_
  refine lv_iadd X.1 X.2.1 dX1_noteAddress_6 ?_
  obtain ⟨x_1, ex_1, h⟩ := lk_some h
  refine lv_name ex_1 ?_
  refine lv_istore (lv' := [(4, .int x_1), (0, .ref (ad 40)), (1, .int a1), (2, .int a2), (3, .int a3)]) X.1 X.2.1 dX1_noteAddress_7 hl (by decide) rfl (fun ls hl => ?_)
  refine lv_aload_n X.1 X.2.1 dX1_noteAddress_9 rfl (lv_at hl 1 rfl) ?_
  refine lv_iload X.1 X.2.1 dX1_noteAddress_10 (lv_at hl 0 rfl) ?_
  obtain ⟨r2, hr2, h⟩ := bd_some h
  refine r_cVi (As := [.int x_1]) (rest := []) X w lyC_40 rfl (kX1_indexOf (cap := cap) l D ca ad mem x_1  hr2) (gTV tw_611 tw_612 tw_613 tw_73 tw_614) hdX1_indexOf (by decide) rfl hl.1 rfl (Nat.le_of_ble_eq_true rfl) dX1_noteAddress_12 ⟨Nat.zero_le _, Nat.zero_le _⟩ (fun H locs w => ?_)
  refine lv_istore (lv' := [(5, .int r2), (4, .int x_1), (0, .ref (ad 40)), (1, .int a1), (2, .int a2), (3, .int a3)]) X.1 X.2.1 dX1_noteAddress_15 hl (by decide) rfl (fun ls hl => ?_)
  refine lv_iload X.1 X.2.1 dX1_noteAddress_17 (lv_at hl 0 rfl) ?_
  refine lv_iconst (v := (-1 : Int32)) X.1 X.2.1 dX1_noteAddress_19 (by decide) ?_
  refine lv_icmp_ne (tgt := 105) X.1 X.2.1 dX1_noteAddress_20 (by decide) (fun c3 => ?_) (fun c3 => ?_)
  · rw [if_neg c3] at h
    refine lv_aload_n X.1 X.2.1 dX1_noteAddress_105 rfl (lv_at hl 2 rfl) ?_
    refine r_getr (b2 := 43) X w lyC_40 rfl inT1 3 rfl rfl (by decide) rfl tw_289 dX1_noteAddress_106 ?_
    refine lv_iload X.1 X.2.1 dX1_noteAddress_109 (lv_at hl 0 rfl) ?_
    refine lv_iload_n X.1 X.2.1 dX1_noteAddress_111 rfl (lv_at hl 5 rfl) ?_
    obtain ⟨hi4, h⟩ := gd_some h
    refine r_iast X w lyC_43 hi4 dX1_noteAddress_112 (fun H locs w => ?_)
    obtain ⟨m5, em5, h⟩ := wk_some h
    rw [em5] at w
    obtain ⟨rfl, rfl⟩ := Prod.mk.inj (Option.some.inj h)
    exact r_vretN X M (Nat.zero_le _) (Nat.zero_le _) Ag.rf w dX1_noteAddress_113
  · rw [if_pos c3] at h
    refine lv_aload_n X.1 X.2.1 dX1_noteAddress_23 rfl (lv_at hl 2 rfl) ?_
    refine r_get X w lyC_40 rfl inT1 4 rfl (by decide) rfl tw_290 dX1_noteAddress_24 ?_
    refine lv_sipush (v := (512 : Int32)) X.1 X.2.1 dX1_noteAddress_27 (by decide) ?_
    refine lv_icmp_lt (tgt := 34) X.1 X.2.1 dX1_noteAddress_30 (by decide) (fun c6 => ?_) (fun c6 => ?_)
    · rw [if_pos c6] at h
      refine lv_aload_n X.1 X.2.1 dX1_noteAddress_34 rfl (lv_at hl 2 rfl) ?_
      refine r_get X w lyC_40 rfl inT1 4 rfl (by decide) rfl tw_290 dX1_noteAddress_35 ?_
      refine lv_aload_n X.1 X.2.1 dX1_noteAddress_38 rfl (lv_at hl 2 rfl) ?_
      refine r_getr (b2 := 42) X w lyC_40 rfl inT1 2 rfl rfl (by decide) rfl tw_288 dX1_noteAddress_39 ?_
      refine r_alen (v := (Int32.ofNat cap)) X w lyC_42 rfl dX1_noteAddress_42 ?_
      refine lv_icmp_ne (tgt := 80) X.1 X.2.1 dX1_noteAddress_43 (by decide) (fun c7 => ?_) (fun c7 => ?_)
      · rw [if_neg c7] at h
        exact wX1_noteAddress_b80 X M (Nat.zero_le _) (Nat.zero_le _) Ag.rf w (lv_sub hl [2, 5, 1] rfl) h
      · rw [if_pos c7] at h
        obtain ⟨hcap, h⟩ := ngr_some h
        refine wX1_note_46 X hcap c7 w hl (fun u H locs ls hag w hl => ?_)
        exact wX1_noteAddress_b80 X M (Nat.le_refl 2) (by omega) hag w hl h
    · rw [if_neg c6] at h
      obtain ⟨rfl, rfl⟩ := Prod.mk.inj (Option.some.inj h)
      exact r_vretN X M (Nat.zero_le _) (Nat.zero_le _) Ag.rf w dX1_noteAddress_33
