theorem known_arr {s : State} {args : Array Value} {ty : FieldType} (h : (Cond.arrayClass ty).before args s = true) (hty : ∀ cA, va_RA s cA ty = (s.vm.findClass ("[" ++ ty.toString) = some cA)) : ∃ cA, ArrOfT s cA ty ∧ va_RA s cA ty := by
  obtain ⟨cA, kA, comp, h1, h2, h3⟩ := Cond.arrayClass_spec h
  exact ⟨cA, fun n z => ⟨fun k h => (by cases h), kA, h2, comp, h3⟩, by rw [hty]; exact h1⟩
theorem known_arq {s : State} {C : String} (h : va_AO C s) : ∃ cA, ArrOfT s cA (.object C) ∧ va_RA s cA (.object C) := by
  obtain ⟨comp, cA, kA, h1, -, h2, h3, h4⟩ := Cond.arrayOver_spec h
  exact ⟨cA, fun n z => ⟨fun k h => (by cases h), kA, h2, comp, h3⟩, kA, comp, h2, h3, h1, h4⟩
theorem ns_bt : ∀ w ∈ nsB, w ∈ lw_tbl := by decide +kernel
theorem rg_map {α : Type} {l : List α} {x : List α} {n : Nat} (h : l.length = n) : (List.range n).map (fun i => (l ++ x)[i]?) = l.map some := by
  apply List.ext_getElem?
  intro j
  rw [List.getElem?_map, List.getElem?_map]
  by_cases hj : j < n
  · rw [List.getElem?_range hj]
    simp only [Option.map_some]
    rw [List.getElem?_append_left (by omega), List.getElem?_eq_getElem (by omega)]
    rfl
  · rw [List.getElem?_eq_none (by rw [List.length_range]; omega), List.getElem?_eq_none (by omega)]
    rfl
set_option maxRecDepth 100000 in
set_option maxHeartbeats 4000000 in
/-- THE LAW, from its entry, over a relation that every call keeps -/
theorem whole_open {Rel : Nat → Nat → Mm → Mm → Prop} (hSt : Steps_all Rel) (hR0 : Rel 0 8 memC0 memM0) {p : Program} {e : Env} {s : State} {m : MethodId} {below : List Frame} {meth : Method} {c : Code} (l : Launch) (hflags : l.flags = flags0) {b L : Nat} {xs : Nat → Int32} (hL : L ≤ 3072) (C0 : lw_At p s m meth c b L xs) : W p l e room_1 s m #[Value.ref b] below meth c s.heap [] 0 0 (lw_Z below #[Value.ref b] s) (entryFrame m ([Value.ref b] : List Value).toArray 7) := by
  obtain ⟨hx, hb, hr, hml, hown, hts, hX, hbl, hlocks, hgv⟩ := C0
  have hTT : ∀ w ∈ TT, w.before #[Value.ref b] s = true := fun w h => hts w (TT_tbl w h)
  have X : CallFix p m c cL_law 7 s #[Value.ref b] TT RL := ⟨hx, hb, hml, hown, hTT⟩
  have hst : l.stackTraces = false := by
    unfold Launch.stackTraces
    rw [hflags]
    decide +kernel
  obtain ⟨c0, iS0, hKn0⟩ := u_known (C := RX0) (T := TX0) (N := 3) (n := 3) hTT inT0 (hTT _ tw_262)
  obtain ⟨c1, iS1, hKn1⟩ := u_known (C := RX1) (T := TX1) (N := 5) (n := 5) hTT inT1 (hTT _ tw_279)
  obtain ⟨c2, iS2, hKn2⟩ := u_known (C := RX2) (T := TX2) (N := 1) (n := 1) hTT inT2 (hTT _ tw_303)
  obtain ⟨c3, iS3, hKn3⟩ := u_known (C := RX3) (T := TX3) (N := 8) (n := 8) hTT inT3 (hTT _ tw_128)
  obtain ⟨c4, iS4, hKn4⟩ := u_known (C := RX4) (T := TX4) (N := 5) (n := 5) hTT inT4 (hTT _ tw_92)
  obtain ⟨c5, iS5, hKn5⟩ := u_known (C := RX5) (T := TX5) (N := 2) (n := 2) hTT inT5 (hTT _ tw_121)
  obtain ⟨c6, iS6, hKn6⟩ := u_known (C := RX6) (T := TX6) (N := 11) (n := 11) hTT inT6 (hTT _ tw_180)
  obtain ⟨c7, iS7, hKn7⟩ := u_known (C := RX7) (T := TX7) (N := 6) (n := 6) hTT inT7 (hTT _ tw_231)
  obtain ⟨c8, iS8, hKn8⟩ := u_known (C := RX8) (T := TX8) (N := 16) (n := 16) hTT inT8 (hTT _ tw_84)
  obtain ⟨c9, iS9, hKn9⟩ := u_known (C := RX9) (T := TX9) (N := 25) (n := 25) hTT inT9 (hTT _ tw_897)
  obtain ⟨dC, dI, hKc⟩ : ∃ (dC : Nat → ClassId) (dI : Nat → Nat → Nat), ∀ (k : Nat) (q : vw_C), vwCl[k]? = some q → u_Kn s q.1 q.2.1 q.2.2 (dC k) (dI k) := by
    refine ⟨fun k => if k = 0 then c0 else if k = 1 then c1 else if k = 2 then c2 else if k = 3 then c3 else if k = 4 then c4 else if k = 5 then c5 else if k = 6 then c6 else if k = 7 then c7 else if k = 8 then c8 else c9, fun k => if k = 0 then iS0 else if k = 1 then iS1 else if k = 2 then iS2 else if k = 3 then iS3 else if k = 4 then iS4 else if k = 5 then iS5 else if k = 6 then iS6 else if k = 7 then iS7 else if k = 8 then iS8 else iS9, ?_⟩
    intro k q hq
    match k, hq with
    | 0, hq => cases hq; exact hKn0
    | 1, hq => cases hq; exact hKn1
    | 2, hq => cases hq; exact hKn2
    | 3, hq => cases hq; exact hKn3
    | 4, hq => cases hq; exact hKn4
    | 5, hq => cases hq; exact hKn5
    | 6, hq => cases hq; exact hKn6
    | 7, hq => cases hq; exact hKn7
    | 8, hq => cases hq; exact hKn8
    | 9, hq => cases hq; exact hKn9
    | k + 10, hq => simp [vwCl] at hq
  have hAP : va_AO "WalkHouse$Place" s := va_AO.of (hts _ (List.mem_of_getElem? (i := 127) (by decide +kernel : lw_tbl[127]? = some (Jvm.Cond.arrayOver (Jvm.ClassFile.FieldType.object "WalkHouse$Place")))))
  have hAW : va_AO "WalkHouse$Walk" s := va_AO.of (hts _ (List.mem_of_getElem? (i := 179) (by decide +kernel : lw_tbl[179]? = some (Jvm.Cond.arrayOver (Jvm.ClassFile.FieldType.object "WalkHouse$Walk")))))
  obtain ⟨a0, ha0, ha0'⟩ := known_arr (ty := .int) (hTT _ tw_119) (fun _ => rfl)
  obtain ⟨a1, ha1, ha1'⟩ := known_arr (ty := .boolean) (hTT _ tw_978) (fun _ => rfl)
  obtain ⟨a2, ha2, ha2'⟩ := known_arq hAP
  obtain ⟨a3, ha3, ha3'⟩ := known_arq hAW
  obtain ⟨ca, hca⟩ : ∃ ca : Nat → ClassId, ca 0 = a0 ∧ ca 1 = a1 ∧ ca 2 = a2 ∧ ca 3 = a3 := ⟨fun k => if k = 0 then a0 else if k = 1 then a1 else if k = 2 then a2 else a3, rfl, rfl, rfl, rfl⟩
  obtain ⟨rfl, rfl, rfl, rfl⟩ := hca
  have hK : va_K (dC, dI) vwCl (tysX ca) s := ⟨hKc, fun k q h => by
    match k, h with
    | 0, h => cases h; exact ⟨ha0, ha0'⟩
    | 1, h => cases h; exact ⟨ha1, ha1'⟩
    | 2, h => cases h; exact ⟨ha2, ha2'⟩
    | 3, h => cases h; exact ⟨ha3, ha3'⟩
    | k + 4, h => simp [tysX] at h⟩
  have hKx : Kx (dC, dI) ca s := ⟨hK, (va_Nw.of rfl (hts _ (List.mem_of_getElem? (i := 461) (by decide +kernel : lw_tbl[461]? = some nwP1)))), (va_Nw.of rfl (hts _ (List.mem_of_getElem? (i := 491) (by decide +kernel : lw_tbl[491]? = some nwP2)))), (va_Nw.of rfl (hts _ (List.mem_of_getElem? (i := 673) (by decide +kernel : lw_tbl[673]? = some nwW))))⟩
  have hKcc : Kc (dC, dI) ca s := ⟨hKx, ⟨hAP, hAW⟩, (va_Nw.of rfl (hts _ (List.mem_of_getElem? (i := 129) (by decide +kernel : lw_tbl[129]? = some nwS1)))), (va_Nw.of rfl (hts _ (List.mem_of_getElem? (i := 181) (by decide +kernel : lw_tbl[181]? = some nwC1)))), (va_Nw.of rfl (hts _ (List.mem_of_getElem? (i := 232) (by decide +kernel : lw_tbl[232]? = some nwC2)))), (va_Nw.of rfl (hts _ (List.mem_of_getElem? (i := 263) (by decide +kernel : lw_tbl[263]? = some nwC3)))), (va_Nw.of rfl (hts _ (List.mem_of_getElem? (i := 280) (by decide +kernel : lw_tbl[280]? = some nwC4)))), (va_Nw.of rfl (hts _ (List.mem_of_getElem? (i := 304) (by decide +kernel : lw_tbl[304]? = some nwC5))))⟩
  have hKn : Kn s := fun w hw => va_Nw.of (ns_face w hw).2 (hts w (ns_bt w hw))
  have hfl := flat_of_before _ hgv
  have hZ : Zs (fun q => s.heap.size ≤ q) s s.heap := ⟨vx_Zqof (hts _ (List.mem_of_getElem? (i := 843) (by decide +kernel : lw_tbl[843]? = some (Jvm.Cond.laysStatic "java/lang/Throwable" "UNASSIGNED_STACK" "[Ljava/lang/StackTraceElement;")))) (hTT _ tw_78) (hfl _ (by decide +kernel)) (fun a h => Nat.not_le.mpr h), vx_Zqof (hts _ (List.mem_of_getElem? (i := 845) (by decide +kernel : lw_tbl[845]? = some (Jvm.Cond.laysStatic "java/lang/Throwable" "SUPPRESSED_SENTINEL" "Ljava/util/List;")))) (hTT _ tw_78) (hfl _ (by decide +kernel)) (fun a h => Nat.not_le.mpr h)⟩
  have hl := lv_entry ([.ref b]) (n := 7) (Nat.le_of_ble_eq_true rfl)
  rw [lg_entry_eq]
  generalize (lg_sl ([.ref b]) ++ List.replicate (7 - (lg_sl ([.ref b])).length) Slot.unset).toArray = ls at hl ⊢
  have hl : lv_has ls 7 [(0, .ref b)] := hl
  have w : Wn (dC, dI) ca (fun q => s.heap.size ≤ q) s.heap s [] s.heap [] := ⟨fun k q h => by simp at h, ⟨fun i j p q h => by simp at h, fun k q h => by simp at h⟩, va_S.rf, fun q h => h, hKcc⟩
  refine n_new (ci := 8) X w rfl inT8 tyX8 tyX8_ok tw_83 tw_84 tw_65 [.null, .null, .null, .null, .null, .null, .null, .null, .null, .null, .null, .int 0, .int 0, .int 0, .int 0, .int 0] dfX8 (Nat.le_of_ble_eq_true rfl) (Nat.le_of_ble_eq_true rfl) dL_law_0 (fun q1 H w => ?_)
  replace w : Wn (dC, dI) ca (fun q => s.heap.size ≤ q) s.heap s [(q1, .inr (8, [.null, .null, .null, .null, .null, .null, .null, .null, .null, .null, .null, .int 0, .int 0, .int 0, .int 0, .int 0]))] H [] := w
  refine lv_dup X.1 X.2.1 dL_law_3 rfl ?_
  refine n_callI (wr := []) X w 0 [] rfl rfl rfl (by decide) (kX8_init l (dC, dI) ca q1 H.size) tw_87 tw_65 tw_85 tw_86 rfl hdX8_init rfl rfl ⟨Nat.le_of_ble_eq_true rfl, Nat.le_of_ble_eq_true rfl⟩ hl.1 (Nat.le_of_ble_eq_true rfl) dL_law_4 ⟨Nat.le_of_ble_eq_true rfl, Nat.le_of_ble_eq_true rfl⟩ (fun u1 H locs hu1 w => ?_)
  rw [List.nil_append, postC_wd] at w
  refine lv_astore_n (lv' := [(1, .ref q1), (0, .ref b)]) X.1 X.2.1 dL_law_7 rfl hl (by decide) rfl (fun ls hl => ?_)
  refine W.widen (k := 50) (n := 600) (Nat.le_of_ble_eq_true rfl) (Nat.le_of_ble_eq_true rfl) ?_
  obtain ⟨wc, hwc⟩ : ∃ z, wd ca u1 memC0 (layC 8) = z := ⟨_, rfl⟩
  have hlen : wc.length = 46 := by rw [← hwc, wd_len]; rfl
  rw [hwc] at w
  refine n_new (ci := 9) X w rfl inT9 tyX9 tyX9_ok tw_896 tw_897 tw_75 [.int 0, .null, .null, .null, .null, .null, .int 0, .int 0, .int 0, .null, .null, .int 0, .int 0, .int 0, .int 0, .int 0, .int 0, .int 0, .int 0, .int 0, .null, .null, .null, .null, .null] dfX9 (Nat.le_of_ble_eq_true rfl) (Nat.le_of_ble_eq_true rfl) dL_law_8 (fun q2 H w => ?_)
  refine lv_dup X.1 X.2.1 dL_law_11 rfl ?_
  refine n_callI (wr := wc) X w 46 (List.range 46) (by rw [List.map_cons, List.map_nil, List.getElem?_append_right (by omega), hlen]; rfl) (rg_map hlen) (by decide +kernel) (by decide +kernel) (kX9_init l (dC, dI) ca q2 H.size) tw_900 tw_75 tw_898 tw_899 rfl hdX9_init rfl rfl ⟨Nat.le_of_ble_eq_true rfl, Nat.le_of_ble_eq_true rfl⟩ hl.1 (Nat.le_of_ble_eq_true rfl) dL_law_12 ⟨Nat.le_of_ble_eq_true rfl, Nat.le_of_ble_eq_true rfl⟩ (fun u2 H locs hu2 w => ?_)
  rw [postM_wd] at w
  refine lv_astore_n (lv' := [(2, .ref q2), (1, .ref q1), (0, .ref b)]) X.1 X.2.1 dL_law_15 rfl hl (by decide) rfl (fun ls hl => ?_)
  refine W.widen (k := 80) (n := 5900) (Nat.le_of_ble_eq_true rfl) (Nat.le_of_ble_eq_true rfl) ?_
  refine lv_iconst (v := (1 : Int32)) X.1 X.2.1 dL_law_16 (by decide) ?_
  obtain ⟨wm, hwm⟩ : ∃ z, wc ++ wd ca u2 memM0 layM = z := ⟨_, rfl⟩
  rw [hwm] at w
  refine va_newa (atype := .long) (ty := .long) (a0 := (1, .inr (.inl (fun _ => 0)))) X.1 X.2.1 (X.2.2.2.2 _ tw_1249) rfl hK w.1 w.2.1 w.2.2.1 w.2.2.2.1 (fun _ => rfl) (by decide) (by decide) (by decide) (Nat.le_of_ble_eq_true rfl) (Nat.le_of_ble_eq_true rfl) dL_law_17 (fun q3 cL H hK1 hP hD hS => ?_)
  refine lv_astore_n (lv' := [(3, .ref q3), (2, .ref q2), (1, .ref q1), (0, .ref b)]) X.1 X.2.1 dL_law_19 rfl hl (by decide) rfl (fun ls hl => ?_)
  refine lv_iconst (v := (0 : Int32)) X.1 X.2.1 dL_law_20 (by decide) ?_
  refine lv_istore (lv' := [(4, .int 0), (3, .ref q3), (2, .ref q2), (1, .ref q1), (0, .ref b)]) X.1 X.2.1 dL_law_21 hl (by decide) rfl (fun ls hl => ?_)
  refine W.widen (k := 100 + 2 * 0) (n := 6000 + 1024 * 0) (Nat.le_of_ble_eq_true rfl) (Nat.le_of_ble_eq_true rfl) ?_
  subst hwm
  subst hwc
  have hl1 : (wd ca u1 memC0 (layC 8)).length = 46 := by rw [wd_len]; rfl
  have hl2 : (wd ca u2 memM0 layM).length = 13 := by rw [wd_len]; rfl
  have at1 : ∀ b, b < 46 → ∃ q, ((wd ca u1 memC0 (layC 8) ++ wd ca u2 memM0 layM) ++ [((q3, .inl (cL, 1, .inr (.inl (fun _ => 0)))) : Nat × va_E)])[b]? = some q ∧ (wd ca u1 memC0 (layC 8))[b]? = some q ∧ q.1 = u1 b := fun b hb => by
    have h1 := List.getElem?_eq_getElem (l := wd ca u1 memC0 (layC 8)) (i := b) (by omega)
    exact ⟨_, by rw [List.getElem?_append_left (by rw [List.length_append]; omega), List.getElem?_append_left (by omega)]; exact h1, h1, (wd_at h1).2⟩
  have at2 : ∀ b, b < 13 → ∃ q, ((wd ca u1 memC0 (layC 8) ++ wd ca u2 memM0 layM) ++ [((q3, .inl (cL, 1, .inr (.inl (fun _ => 0)))) : Nat × va_E)])[46 + b]? = some q ∧ (wd ca u2 memM0 layM)[b]? = some q ∧ q.1 = u2 b := fun b hb => by
    have h1 := List.getElem?_eq_getElem (l := wd ca u2 memM0 layM) (i := b) (by omega)
    exact ⟨_, by rw [List.getElem?_append_left (by rw [List.length_append]; omega), List.getElem?_append_right (by omega), hl1, Nat.add_sub_cancel_left]; exact h1, h1, (wd_at h1).2⟩
  have at3 : ((wd ca u1 memC0 (layC 8) ++ wd ca u2 memM0 layM) ++ [((q3, .inl (cL, 1, .inr (.inl (fun _ => 0)))) : Nat × va_E)])[59]? = some (q3, .inl (cL, 1, .inr (.inl (fun _ => 0)))) := by
    rw [List.getElem?_append_right (by rw [List.length_append]; omega), List.length_append, hl1, hl2]; rfl
  have hKL : va_K (dC, dI) vwCl [(cL, .long)] s := ⟨hK1.1, fun k q h => by
    match k, h with
    | 0, h => cases h; exact hK1.2 4 _ rfl
    | k + 1, h => simp at h⟩
  refine law_loop (ad2 := u2) (q3 := q3) hSt X hr hlocks hst hKn hZ hKL hX hbl hL (L + 6) 0 0 rfl (by omega) (by omega) u1 8 memC0 memM0 (fun _ => 0) _ _ _ hR0 ⟨?_, ?_, ?_, hS, ⟨⟨?_, ?_⟩, ?_, ?_, ?_, ?_, ?_, ?_⟩, hKx⟩ (by rw [hu1, hu2]; exact lv_sub hl [4, 3, 2, 1, 0] rfl)
  · intro k q hk
    have hlt : k < 46 := by have := (List.getElem?_eq_some_iff.mp hk).1; omega
    obtain ⟨q', g1, g2, -⟩ := at1 k hlt
    rw [hk] at g2
    cases g2
    exact hP k _ g1
  · intro k q hk
    have hlt : k < 13 := by have := (List.getElem?_eq_some_iff.mp hk).1; omega
    obtain ⟨q', g1, g2, -⟩ := at2 k hlt
    rw [hk] at g2
    cases g2
    exact hP _ _ g1
  · intro k q hk
    match k, hk with
    | 0, hk => cases hk; exact hP 59 _ at3
    | k + 1, hk => simp at hk
  · intro i j hi hj hij
    obtain ⟨x, g1, -, g3⟩ := at1 i hi
    obtain ⟨y, f1, -, f3⟩ := at1 j hj
    exact hD.1 i j x y g1 f1 (by rw [g3, f3]; exact hij)
  · intro i j hi hj hij
    obtain ⟨x, g1, -, g3⟩ := at2 i hi
    obtain ⟨y, f1, -, f3⟩ := at2 j hj
    have := hD.1 _ _ x y g1 f1 (by rw [g3, f3]; exact hij)
    omega
  · intro b hb
    obtain ⟨x, g1, -, g3⟩ := at1 b hb
    rw [← g3]
    exact hD.2 _ _ g1
  · intro b hb
    obtain ⟨x, g1, -, g3⟩ := at2 b hb
    rw [← g3]
    exact hD.2 _ _ g1
  · exact hD.2 _ _ at3
  · intro b b' hb hb' e
    obtain ⟨x, g1, -, g3⟩ := at1 b hb
    obtain ⟨y, f1, -, f3⟩ := at2 b' hb'
    have := hD.1 _ _ x y g1 f1 (by rw [g3, f3]; exact e)
    omega
  · intro b hb e
    obtain ⟨x, g1, -, g3⟩ := at1 b hb
    have := hD.1 _ _ x _ g1 at3 (by rw [g3]; exact e)
    omega
  · intro b hb e
    obtain ⟨x, g1, -, g3⟩ := at2 b hb
    have := hD.1 _ _ x _ g1 at3 (by rw [g3]; exact e)
    omega
