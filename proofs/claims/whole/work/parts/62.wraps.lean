/-! THE LAW'S OWN METHODS cached, upper: they catch -/
theorem met_ofWH {l : Launch} {y : MethodName} {ws ws' : List Cond} {rm : Room} {Pc : Array Value → State → Prop} {Qc : Array Value → State → Outcome → State → Prop} {mc ms : Nat} {free : Addr → Prop} {cc : ByteArray} {maxL : Nat} {ret : Option FieldType} {hh : List (Nat × Nat × Nat × Nat)}
    (hy : plainName y.cls = true) (hw : ws = Cond.codeWith y cc maxL ret hh :: ws')
    (body : ∀ p e s m args below meth c s₁, BodyLoose p l y (headSpec ws rm) cc maxL ret e s m args below meth c s₁ → c.maxLocals = maxL → Pc args s →
      W p l e (headSpec ws rm).room s m args below meth c s.heap [] 0 0 (MQ below Qc args s mc ms free) (entryFrame m args maxL)) : Met l y ws rm Pc Qc mc ms free := by
  refine MetFree.of_bodyS (code := cc) (maxLocals := maxL) (ret := ret) hy ?_ ?_
  · intro args s m h hn
    obtain ⟨m9, meth, c, hn9, h1, h2, h3, h4, -, h5, h6, -⟩ := Cond.codeWith_spec (atoms_spec (ws := ws) h _ (by rw [hw]; exact List.mem_cons_self))
    cases hn.symm.trans hn9
    exact ⟨meth, c, h1, h2, h3, h4, h5, h6⟩
  · intro p e s m args below meth c s₁ B hml hP _
    have hh0 : s₁.heap = s.heap := by rw [B.state]; rfl
    obtain ⟨t, a1, o, b1, b2, b3⟩ := body p e s m args below meth c s₁ B hml hP s₁ hh0 (Stand.of_body B)
    exact ⟨t, o, a1, b1, b2, ⟨b3.1, b3.2⟩⟩
theorem ns_cast : Cond.castable nsE nsE ∈ nsB := by decide +kernel
def AW (ad : Nat → Nat) (q3 sz : Nat) : Nat → Prop := fun q => AF ad sz q ∨ q = q3
/-- what the law's method says of its answer and of the array: ro none: thrown -/
def wpost (ro : Option Int32) (fo : Nat → Int64) (r : Int32) (f2 : Nat → Int64) : Prop := (ro = none ∧ r = 1 ∧ f2 = fo) ∨ ∃ v, ro = some v ∧ r = 0 ∧ f2 0 = v.toInt64
def PreL (D : va_G) (ca : Nat → ClassId) (ad : Nat → Nat) (sz cap : Nat) (mem : Mm) (q3 : Nat) (fo : Nat → Int64) (cL : ClassId) (av : List Value) : Array Value → State → Prop := va_Pc av (fun U => U.heap.size = sz ∧ va_P D vwCl (wd ca ad mem (layC cap)) U.heap ∧ va_P D vwCl [(q3, .inl (cL, 1, .inr (.inl fo)))] U.heap ∧ Kx D ca U ∧ va_K D vwCl [(cL, .long)] U ∧ Dj ad 46 ∧ (∀ b, b < 46 → ad b ≠ q3) ∧ Kn U ∧ Zs (AW ad q3 sz) U U.heap)
def QL (D : va_G) (ca : Nat → ClassId) (ad : Nat → Nat) (sz cap : Nat) (mem' : Mm) (q3 : Nat) (fo : Nat → Int64) (cL : ClassId) (ro : Option Int32) : Array Value → State → Outcome → State → Prop := va_Qi (fun r f2 => wpost ro fo r f2) (fun f2 t => va_P D vwCl (wd ca ad mem' (layC cap)) t.heap ∧ va_P D vwCl [(q3, .inl (cL, 1, .inr (.inl f2)))] t.heap) (AW ad q3 sz)
theorem PreL.blind {D : va_G} {ca : Nat → ClassId} {ad : Nat → Nat} {sz cap : Nat} {mem : Mm} {q3 : Nat} {fo : Nat → Int64} {cL : ClassId} {av : List Value} : FrameBlind (PreL D ca ad sz cap mem q3 fo cL av) := by
  intro a U g mk q
  obtain ⟨q0, q1, q2, q3, q4, q5, q6, q7, q8, q9⟩ := q
  exact ⟨q0, q1, q2, q3, Kx.same (s := U) rfl q4, va_K.moved (Vm.Alike.refl U.vm) q5, q6, q7, Kn.same (s := U) rfl q8, vx_Zq.moved (Vm.Alike.refl U.vm) q9.1, vx_Zq.moved (Vm.Alike.refl U.vm) q9.2⟩
theorem va_lastK {p : Program} {l : Launch} {e : Env} {R : Room} {s : State} {m : MethodId} {args : Array Value} {below : List Frame} {meth : Method} {c : Code} {H H0 : Heap} {locs : List Loc} {cells slots : Nat} {Q : State → Prop} {cc : ByteArray} {pc : Nat} {ls : Array Slot} {rest : List Value} {D : va_G} {cl : List vw_C} {A : Nat → Prop} {a : Nat} {tys : List (ClassId × FieldType)} {ws : va_W} (hexec : p.tables.exec = Jvm.exec) (hb : c.code = cc) (hK : va_K D cl tys s) (hP : va_P D cl ws H) (hD : va_D A ws) (hS : va_S A H0 H locs) (q0 t0 : Nat) {cA : ClassId} {n : Nat} {f : Nat → Int64} (ha : ws[q0]? = some (a, .inl (cA, n, .inr (.inl f)))) (ht : tys[t0]? = some (cA, .long)) {i : Int32} {x : Int64} (hin : vp_in i n) (hdg : decode cc pc = .ok (.lastore, 1))
    (kk : ∀ (H1 : Heap) (locs1 : List Loc), va_P D cl (ws.set q0 (a, .inl (cA, n, .inr (.inl (vp_updL f i.toNatClampNeg x))))) H1 → va_D A (ws.set q0 (a, .inl (cA, n, .inr (.inl (vp_updL f i.toNatClampNeg x))))) → va_S A H0 H1 locs1 → (∀ q, q ≠ a → H1[q]? = H[q]?) → W p l e R s m args below meth c H1 locs1 cells slots Q (F0 m (pc + 1) ls rest)) : W p l e R s m args below meth c H locs cells slots Q (F0 m pc ls (.long x :: .int i :: .ref a :: rest)) := by
  refine W.last hexec hb (hP q0 _ ha) ((hK.2 t0 _ ht).1 n (fun j => .long (f j))) (fun q => by cases q) (by show ¬ (i < 0 ∨ (arrV _ _ _).slots.size ≤ _); rw [arrV_size]; exact hin) rfl rfl hdg fun H1 e z oq => ?_
  refine kk H1 _ (hP.set hD ha ?_ oq) (hD.set ha) (hS.put z oq (hD.2 q0 _ ha)) oq
  show H1[a]? = some (vp_cell _ _)
  rw [e]
  rw [vp_cell_l, vp_cell_l, arrV_store]
  congr 2
  funext q
  by_cases hq : q = i.toNatClampNeg
  · subst hq
    simp [updV, vp_updL]
  · simp [updV, vp_updL, hq]
theorem cwL_cached : Cond.codeWith yL_cached cL_cached 5 (some .int) [(0, 10, 13, 13)] ∈ TT := TT_in 806 (by decide +kernel) (by decide +kernel)
def wsLcached : List Cond := Cond.codeWith yL_cached cL_cached 5 (some .int) [(0, 10, 13, 13)] :: TT
set_option maxRecDepth 100000 in
set_option maxHeartbeats 4000000 in
theorem kL_cached {cap : Nat} (l : Launch) (hst : l.stackTraces = false) (D : va_G) (ca : Nat → ClassId) (ad : Nat → Nat) (sz : Nat) (mem : Mm) (q3 : Nat) (fo : Nat → Int64) (cL : ClassId) (a1 : Int32) (a2 : Int32) {mem' : Mm} {ro : Option Int32} (h : fX8_cached mem a1 a2 = some (mem', ro)) : Met l yL_cached wsLcached ({ frames := 7, cells := 1, slots := 6, locals := 115 }) (PreL D ca ad sz cap mem q3 fo cL [.ref (ad 0), .int a1, .int a2, .ref q3]) (QL D ca ad sz cap mem' q3 fo cL ro) 1 6 (AW ad q3 sz) := by
  refine met_ofWH (cc := cL_cached) (maxL := 5) (ret := some .int) (hh := [(0, 10, 13, 13)]) (by decide) rfl ?_
  intro p e s m args below meth c s₁ B hml hv
  obtain ⟨rfl, hsz, hP, hO, hK, hKL, hDj, hdis, hKn, hZ⟩ := hv
  subst hsz
  have hpre := atoms_spec (ws := wsLcached) B.pre
  have X : CallFix p m c cL_cached 5 s _ TT RL := ⟨B.exec, B.bytes, hml, findClass_of_methodNamed B.named, fun w h => hpre w (List.mem_cons_of_mem _ h)⟩
  have htab : c.exceptionTable.toList = tableOf [(0, 10, 13, 13)] := vx_table (x := yL_cached) B (hpre _ List.mem_cons_self)
  have hr := B.returns
  have hlocks := B.notSynchronized
  have hA : ∀ q, s.heap.size ≤ q → AW ad q3 s.heap.size q := fun q h => Or.inl (Or.inr h)
  have hS : va_S (AW ad q3 s.heap.size) s.heap s.heap [] := va_S.rf
  have hl := lv_entry [.ref (ad 0), .int a1, .int a2, .ref q3] (n := 5) (Nat.le_of_ble_eq_true rfl)
  rw [lg_entry_eq]
  generalize (lg_sl ([.ref (ad 0), .int a1, .int a2, .ref q3]) ++ List.replicate (5 - (lg_sl ([.ref (ad 0), .int a1, .int a2, .ref q3])).length) Slot.unset).toArray = ls at hl ⊢
  have hl : lv_has ls 5 [(0, .ref (ad 0)), (1, .int a1), (2, .int a2), (3, .ref q3)] := hl
  have hO0 : ∀ (H1 : Heap), (∀ q : Nat, q < s.heap.size → ¬ AF ad s.heap.size q → H1[q]? = s.heap[q]?) → va_P D vwCl [(q3, .inl (cL, 1, .inr (.inl fo)))] H1 := fun H1 hk => hO.kept (fun j q hj => by
    have g1 := (List.getElem?_eq_some_iff.mp hj).1
    simp only [List.length_cons, List.length_nil] at g1
    rw [show j = 0 by omega] at hj
    cases hj
    refine hk q3 (hO 0 _ rfl).lt (fun z => ?_)
    rcases z with ⟨b, hb, e⟩ | z
    · exact hdis b hb e.symm
    · exact absurd (hO 0 _ rfl).lt (Nat.not_lt.mpr z))
  refine lv_aload_n X.1 X.2.1 dL_cached_0 rfl (lv_at hl 3 rfl) ?_
  refine lv_iconst (v := (0 : Int32)) X.1 X.2.1 dL_cached_1 (by decide) ?_
  refine lv_aload_n X.1 X.2.1 dL_cached_2 rfl (lv_at hl 0 rfl) ?_
  refine lv_iload_n X.1 X.2.1 dL_cached_3 rfl (lv_at hl 1 rfl) ?_
  refine lv_iload_n X.1 X.2.1 dL_cached_4 rfl (lv_at hl 2 rfl) ?_
  refine vx_calli (vx_runV (As := [.int a1, .int a2]) (rest := [.int 0, .ref q3]) X (kX8_cached l hst D ca ad s.heap.size mem a1 a2 h) (cwV 2 X.2.2.2.2 (gTV tw_808 tw_809 tw_810 tw_65 tw_811) rfl rfl rfl hdX8_cached ⟨Nat.le_of_ble_eq_true rfl, Nat.le_of_ble_eq_true rfl⟩) ⟨PreX.blind, va_recv hK.1 hP (q := (RX8, TX8, 16)) rfl (wd_get lyC_0), fun U hU hW => ⟨rfl, by rw [hU], by rw [hU]; exact hP, Kx.warm hW hK, hDj, Kn.warm hW hKn, by rw [hU]; exact ⟨vx_Zq.moved hW.alike (hZ.1.narrow (fun q h => Or.inl h)), vx_Zq.moved hW.alike (hZ.2.narrow (fun q h => Or.inl h))⟩⟩⟩ rfl rfl hl.1 rfl (lv_room (Nat.le_of_ble_eq_true rfl)) dL_cached_5 ⟨Nat.le_of_ble_eq_true rfl, Nat.le_of_ble_eq_true rfl⟩) hS (fun q _ h => Or.inl h) (fun q h => Or.inl h) (fun q _ h => Or.inl h) (fun E ce q9 u t H1 locs ht hal hpx hB _ hk1 hS hce hcv hcl => ?_) (fun r u t H1 locs ht hal hw hB _ hk1 hS => ?_)
  · obtain ⟨rfl, hB⟩ := hB
    refine vx_catch (own := RL) (name := nsE) X.2.2.2.1 [] ⟨0, 10, 13, 13⟩ [] htab (fun z hz => nomatch hz) (by decide) (by decide) (X.2.2.2.2 _ tw_807) (va_Nw.use (ns_face _ ns_cast).2 (hKn _ ns_cast)) hce hcv hcl ?_
    refine lv_astore (lv' := [(4, .ref q9), (0, .ref (ad 0)), (1, .int a1), (2, .int a2), (3, .ref q3)]) X.1 X.2.1 dL_cached_13 hl (by decide) rfl (fun ls hl => ?_)
    refine lv_iconst (v := (1 : Int32)) X.1 X.2.1 dL_cached_15 (by decide) ?_
    refine W.widen (k := 1) (n := 6) (Nat.le_of_ble_eq_true rfl) (Nat.le_of_ble_eq_true rfl) ?_
    exact W.iret (v := 1) X.1 X.2.1 hr (fun t2 ht2 hW => ⟨⟨1, fo, rfl, Or.inl ⟨hpx, rfl, rfl⟩, by dsimp only; rw [ht2, ← ht]; exact ⟨hB, hO0 t.heap (fun q h1 h2 => by rw [ht]; exact hk1 q h1 h2)⟩⟩, hS.F ht2⟩) hS.2.2 dL_cached_16 hlocks
  · subst ht
    have hO1 := hO0 t.heap hk1
    refine lv_i2l (v := r.toInt64) X.1 X.2.1 dL_cached_8 rfl ?_
    have hD1 : va_D (AW ad q3 s.heap.size) [((q3, .inl (cL, 1, .inr (.inl fo))) : Nat × va_E)] := ⟨dj1.1, fun k q hk => by
      have hi := (List.getElem?_eq_some_iff.mp hk).1
      simp only [List.length_cons, List.length_nil] at hi
      rw [show k = 0 by omega] at hk
      cases hk
      exact Or.inr rfl⟩
    refine va_lastK X.1 X.2.1 hKL hO1 hD1 hS 0 0 rfl rfl (show ¬ ((0 : Int32) < 0 ∨ 1 ≤ (0 : Int32).toNatClampNeg) by decide) dL_cached_9 (fun H1 locs hO2 _ hS hoq => ?_)
    have hB2 : va_P D vwCl (wd ca ad mem' (layC cap)) H1 := hB.kept (fun j q hj => by
      obtain ⟨g1, g2⟩ := wd_at hj
      rw [lyC_len] at g1
      exact hoq q.1 (fun z => hdis j g1 (by rw [← g2]; exact z)))
    refine lv_goto (tgt := 17) X.1 X.2.1 dL_cached_10 (by decide) ?_
    refine lv_iconst (v := (0 : Int32)) X.1 X.2.1 dL_cached_17 (by decide) ?_
    refine W.widen (k := 1) (n := 6) (Nat.le_of_ble_eq_true rfl) (Nat.le_of_ble_eq_true rfl) ?_
    exact W.iret (v := 0) X.1 X.2.1 hr (fun t2 ht2 hW => ⟨⟨0, vp_updL fo 0 r.toInt64, rfl, Or.inr ⟨r, hw.symm, rfl, by simp [vp_updL]⟩, by dsimp only; rw [ht2]; exact ⟨hB2, hO2⟩⟩, hS.F ht2⟩) hS.2.2 dL_cached_18 hlocks
theorem cwL_upper : Cond.codeWith yL_upper cL_upper 5 (some .int) [(0, 10, 13, 13)] ∈ TT := TT_in 887 (by decide +kernel) (by decide +kernel)
def wsLupper : List Cond := Cond.codeWith yL_upper cL_upper 5 (some .int) [(0, 10, 13, 13)] :: TT
set_option maxRecDepth 100000 in
set_option maxHeartbeats 4000000 in
theorem kL_upper {cap : Nat} (l : Launch) (hst : l.stackTraces = false) (D : va_G) (ca : Nat → ClassId) (ad : Nat → Nat) (sz : Nat) (mem : Mm) (q3 : Nat) (fo : Nat → Int64) (cL : ClassId) (a1 : Int32) (a2 : Int32) {mem' : Mm} {ro : Option Int32} (h : fX8_upper mem a1 a2 = some (mem', ro)) : Met l yL_upper wsLupper ({ frames := 7, cells := 1, slots := 6, locals := 116 }) (PreL D ca ad sz cap mem q3 fo cL [.ref (ad 0), .int a1, .int a2, .ref q3]) (QL D ca ad sz cap mem' q3 fo cL ro) 1 6 (AW ad q3 sz) := by
  refine met_ofWH (cc := cL_upper) (maxL := 5) (ret := some .int) (hh := [(0, 10, 13, 13)]) (by decide) rfl ?_
  intro p e s m args below meth c s₁ B hml hv
  obtain ⟨rfl, hsz, hP, hO, hK, hKL, hDj, hdis, hKn, hZ⟩ := hv
  subst hsz
  have hpre := atoms_spec (ws := wsLupper) B.pre
  have X : CallFix p m c cL_upper 5 s _ TT RL := ⟨B.exec, B.bytes, hml, findClass_of_methodNamed B.named, fun w h => hpre w (List.mem_cons_of_mem _ h)⟩
  have htab : c.exceptionTable.toList = tableOf [(0, 10, 13, 13)] := vx_table (x := yL_upper) B (hpre _ List.mem_cons_self)
  have hr := B.returns
  have hlocks := B.notSynchronized
  have hA : ∀ q, s.heap.size ≤ q → AW ad q3 s.heap.size q := fun q h => Or.inl (Or.inr h)
  have hS : va_S (AW ad q3 s.heap.size) s.heap s.heap [] := va_S.rf
  have hl := lv_entry [.ref (ad 0), .int a1, .int a2, .ref q3] (n := 5) (Nat.le_of_ble_eq_true rfl)
  rw [lg_entry_eq]
  generalize (lg_sl ([.ref (ad 0), .int a1, .int a2, .ref q3]) ++ List.replicate (5 - (lg_sl ([.ref (ad 0), .int a1, .int a2, .ref q3])).length) Slot.unset).toArray = ls at hl ⊢
  have hl : lv_has ls 5 [(0, .ref (ad 0)), (1, .int a1), (2, .int a2), (3, .ref q3)] := hl
  have hO0 : ∀ (H1 : Heap), (∀ q : Nat, q < s.heap.size → ¬ AF ad s.heap.size q → H1[q]? = s.heap[q]?) → va_P D vwCl [(q3, .inl (cL, 1, .inr (.inl fo)))] H1 := fun H1 hk => hO.kept (fun j q hj => by
    have g1 := (List.getElem?_eq_some_iff.mp hj).1
    simp only [List.length_cons, List.length_nil] at g1
    rw [show j = 0 by omega] at hj
    cases hj
    refine hk q3 (hO 0 _ rfl).lt (fun z => ?_)
    rcases z with ⟨b, hb, e⟩ | z
    · exact hdis b hb e.symm
    · exact absurd (hO 0 _ rfl).lt (Nat.not_lt.mpr z))
  refine lv_aload_n X.1 X.2.1 dL_upper_0 rfl (lv_at hl 3 rfl) ?_
  refine lv_iconst (v := (0 : Int32)) X.1 X.2.1 dL_upper_1 (by decide) ?_
  refine lv_aload_n X.1 X.2.1 dL_upper_2 rfl (lv_at hl 0 rfl) ?_
  refine lv_iload_n X.1 X.2.1 dL_upper_3 rfl (lv_at hl 1 rfl) ?_
  refine lv_iload_n X.1 X.2.1 dL_upper_4 rfl (lv_at hl 2 rfl) ?_
  refine vx_calli (vx_runV (As := [.int a1, .int a2]) (rest := [.int 0, .ref q3]) X (kX8_upper l hst D ca ad s.heap.size mem a1 a2 h) (cwV 2 X.2.2.2.2 (gTV tw_888 tw_889 tw_890 tw_65 tw_891) rfl rfl rfl hdX8_upper ⟨Nat.le_of_ble_eq_true rfl, Nat.le_of_ble_eq_true rfl⟩) ⟨PreX.blind, va_recv hK.1 hP (q := (RX8, TX8, 16)) rfl (wd_get lyC_0), fun U hU hW => ⟨rfl, by rw [hU], by rw [hU]; exact hP, Kx.warm hW hK, hDj, Kn.warm hW hKn, by rw [hU]; exact ⟨vx_Zq.moved hW.alike (hZ.1.narrow (fun q h => Or.inl h)), vx_Zq.moved hW.alike (hZ.2.narrow (fun q h => Or.inl h))⟩⟩⟩ rfl rfl hl.1 rfl (lv_room (Nat.le_of_ble_eq_true rfl)) dL_upper_5 ⟨Nat.le_of_ble_eq_true rfl, Nat.le_of_ble_eq_true rfl⟩) hS (fun q _ h => Or.inl h) (fun q h => Or.inl h) (fun q _ h => Or.inl h) (fun E ce q9 u t H1 locs ht hal hpx hB _ hk1 hS hce hcv hcl => ?_) (fun r u t H1 locs ht hal hw hB _ hk1 hS => ?_)
  · obtain ⟨rfl, hB⟩ := hB
    refine vx_catch (own := RL) (name := nsE) X.2.2.2.1 [] ⟨0, 10, 13, 13⟩ [] htab (fun z hz => nomatch hz) (by decide) (by decide) (X.2.2.2.2 _ tw_807) (va_Nw.use (ns_face _ ns_cast).2 (hKn _ ns_cast)) hce hcv hcl ?_
    refine lv_astore (lv' := [(4, .ref q9), (0, .ref (ad 0)), (1, .int a1), (2, .int a2), (3, .ref q3)]) X.1 X.2.1 dL_upper_13 hl (by decide) rfl (fun ls hl => ?_)
    refine lv_iconst (v := (1 : Int32)) X.1 X.2.1 dL_upper_15 (by decide) ?_
    refine W.widen (k := 1) (n := 6) (Nat.le_of_ble_eq_true rfl) (Nat.le_of_ble_eq_true rfl) ?_
    exact W.iret (v := 1) X.1 X.2.1 hr (fun t2 ht2 hW => ⟨⟨1, fo, rfl, Or.inl ⟨hpx, rfl, rfl⟩, by dsimp only; rw [ht2, ← ht]; exact ⟨hB, hO0 t.heap (fun q h1 h2 => by rw [ht]; exact hk1 q h1 h2)⟩⟩, hS.F ht2⟩) hS.2.2 dL_upper_16 hlocks
  · subst ht
    have hO1 := hO0 t.heap hk1
    refine lv_i2l (v := r.toInt64) X.1 X.2.1 dL_upper_8 rfl ?_
    have hD1 : va_D (AW ad q3 s.heap.size) [((q3, .inl (cL, 1, .inr (.inl fo))) : Nat × va_E)] := ⟨dj1.1, fun k q hk => by
      have hi := (List.getElem?_eq_some_iff.mp hk).1
      simp only [List.length_cons, List.length_nil] at hi
      rw [show k = 0 by omega] at hk
      cases hk
      exact Or.inr rfl⟩
    refine va_lastK X.1 X.2.1 hKL hO1 hD1 hS 0 0 rfl rfl (show ¬ ((0 : Int32) < 0 ∨ 1 ≤ (0 : Int32).toNatClampNeg) by decide) dL_upper_9 (fun H1 locs hO2 _ hS hoq => ?_)
    have hB2 : va_P D vwCl (wd ca ad mem' (layC cap)) H1 := hB.kept (fun j q hj => by
      obtain ⟨g1, g2⟩ := wd_at hj
      rw [lyC_len] at g1
      exact hoq q.1 (fun z => hdis j g1 (by rw [← g2]; exact z)))
    refine lv_goto (tgt := 17) X.1 X.2.1 dL_upper_10 (by decide) ?_
    refine lv_iconst (v := (0 : Int32)) X.1 X.2.1 dL_upper_17 (by decide) ?_
    refine W.widen (k := 1) (n := 6) (Nat.le_of_ble_eq_true rfl) (Nat.le_of_ble_eq_true rfl) ?_
    exact W.iret (v := 0) X.1 X.2.1 hr (fun t2 ht2 hW => ⟨⟨0, vp_updL fo 0 r.toInt64, rfl, Or.inr ⟨r, hw.symm, rfl, by simp [vp_updL]⟩, by dsimp only; rw [ht2]; exact ⟨hB2, hO2⟩⟩, hS.F ht2⟩) hS.2.2 dL_upper_18 hlocks
