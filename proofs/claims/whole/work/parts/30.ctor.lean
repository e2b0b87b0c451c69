/-! CONSTRUCTORS: worlds as written lists -/
def nwS1 : Cond := .methodLinkNest RX5 17 yX3_init RX8
def nwC1 : Cond := .methodLinkNest RX8 39 yX6_init RX8
def nwC2 : Cond := .methodLinkNest RX8 46 yX7_init RX8
def nwC3 : Cond := .methodLinkNest RX8 53 yX0_init RX8
def nwC4 : Cond := .methodLinkNest RX8 60 yX1_init RX8
def nwC5 : Cond := .methodLinkNest RX8 67 yX2_init RX8
def Kc (D : va_G) (ca : Nat → ClassId) (U : State) : Prop := Kx D ca U ∧ (va_AO "WalkHouse$Place" U ∧ va_AO "WalkHouse$Walk" U) ∧ va_Nw nwS1 U ∧ va_Nw nwC1 U ∧ va_Nw nwC2 U ∧ va_Nw nwC3 U ∧ va_Nw nwC4 U ∧ va_Nw nwC5 U
theorem Kc.warm {D : va_G} {ca : Nat → ClassId} {s U : State} (hW : s.WarmedH U.vm) (h : Kc D ca s) : Kc D ca U := by
  obtain ⟨h1, h2, a1, a2, a3, a4, a5, a6⟩ := h
  exact ⟨h1.warm hW, ⟨h2.1.moved hW.alike, h2.2.moved hW.alike⟩, va_Nw.warmM hW a1, va_Nw.warmM hW a2, va_Nw.warmM hW a3, va_Nw.warmM hW a4, va_Nw.warmM hW a5, va_Nw.warmM hW a6⟩
theorem Kc.same {D : va_G} {ca : Nat → ClassId} {s U : State} (hW : s.vm = U.vm) (h : Kc D ca s) : Kc D ca U := by
  obtain ⟨h1, h2, a1, a2, a3, a4, a5, a6⟩ := h
  have hA : s.vm.Alike U.vm := by rw [hW]; exact Vm.Alike.refl U.vm
  exact ⟨h1.same hW, ⟨h2.1.moved hA, h2.2.moved hA⟩, va_Nw.same rfl hW a1, va_Nw.same rfl hW a2, va_Nw.same rfl hW a3, va_Nw.same rfl hW a4, va_Nw.same rfl hW a5, va_Nw.same rfl hW a6⟩
def Wn (D : va_G) (ca : Nat → ClassId) (A : Nat → Prop) (H0 : Heap) (s : State) (ws : va_W) (H : Heap) (locs : List Loc) : Prop :=
  va_P D vwCl ws H ∧ va_D A ws ∧ va_S A H0 H locs ∧ (∀ q, H0.size ≤ q → A q) ∧ Kc D ca s
def CtN (l : Launch) (y : MethodName) (bytes : ByteArray) (maxL : Nat) (rm : Room) (D : va_G) (ca : Nat → ClassId) (h0 sz : Nat) (pre : va_W) (px : (Nat → Nat) → Prop) (post : (Nat → Nat) → va_W) (mc ms : Nat) : Prop :=
  Met l y (wsT y bytes maxL none) rm (va_Pc [.ref h0] (fun U => U.heap.size = sz ∧ va_P D vwCl pre U.heap ∧ Kc D ca U ∧ va_D (fun _ => True) pre)) (va_Qv px (fun u t => va_P D vwCl (post u) t.heap ∧ va_D (va_A pre sz) (post u)) (va_A pre sz)) mc ms (va_A pre sz)
section NW
variable {p : Program} {l : Launch} {e : Env} {R : Room} {s : State} {m : MethodId} {args : Array Value} {below : List Frame} {meth : Method} {c : Code} {H : Heap} {locs : List Loc} {cells slots : Nat} {Q : State → Prop}
variable {cc : ByteArray} {pc nL : Nat} {ls : Array Slot} {rest : List Value} {D : va_G} {A : Nat → Prop} {H0 : Heap} {own : String}
variable {ca : Nat → ClassId} {ws : va_W}
theorem n_new (X : CallFix p m c cc nL s args TT own) (w : Wn D ca A H0 s ws H locs) {ci index N : Nat} {C : String} {T : u_T} (hc : vwCl[ci]? = some (C, T, N)) (hin : ∀ w ∈ u_ws C T N, w ∈ TT) (ty : Nat → FieldType) (hty : ∀ k, k < N → parseFieldDescriptor (T k).2.2.1 = some (ty k)) (hcl : Cond.classLink own index C ∈ TT) (hinst : Cond.instantiable C N ∈ TT) (hini : Cond.initialized C ∈ TT) (fs : List Value) (hfs : ∀ j, j < N → defaultValue (ty j) = vp_V fs j) (hcells : cells + 1 ≤ R.cells) (hslots : slots + N ≤ R.slots) (hdg : decode cc pc = .ok (.new index, 3))
    (kk : ∀ (q : Nat) (H1 : Heap), Wn D ca A H0 s (ws ++ [(q, .inr (ci, fs))]) H1 locs → W p l e R s m args below meth c H1 locs (cells + 1) (slots + N) Q (F0 m (pc + 3) ls (.ref q :: rest))) : W p l e R s m args below meth c H locs cells slots Q (F0 m pc ls rest) :=
  va_new X.1 X.2.1 X.2.2.2.2 hin ty hty X.2.2.2.1 (X.2.2.2.2 _ hcl) (X.2.2.2.2 _ hinst) (X.2.2.2.2 _ hini) w.2.2.2.2.1.1 w.1 w.2.1 w.2.2.1 w.2.2.2.1 hc hfs hcells hslots hdg (fun q H1 h1 h2 h3 => kk q H1 ⟨h1, h2, h3, w.2.2.2.1, w.2.2.2.2⟩)
theorem n_newa (X : CallFix p m c cc nL s args TT own) (w : Wn D ca A H0 s ws H locs) {n : Int32} (N : Nat) (harr : Cond.arrayClass .int ∈ TT) (hn : ¬ n < 0) (hN : n.toNatClampNeg = N) (hbytes : N * componentBytes .int ≤ 536870912) (hcells : cells + 1 ≤ R.cells) (hslots : slots + N ≤ R.slots) (hdg : decode cc pc = .ok (.newarray .int, 2))
    (kk : ∀ (q : Nat) (H1 : Heap), Wn D ca A H0 s (ws ++ [(q, .inl (ca 0, N, .inl (fun _ => 0)))]) H1 locs → W p l e R s m args below meth c H1 locs (cells + 1) (slots + N) Q (F0 m (pc + 2) ls (.ref q :: rest))) : W p l e R s m args below meth c H locs cells slots Q (F0 m pc ls (.int n :: rest)) := by
  refine va_newa (atype := .int) (ty := .int) (a0 := (N, .inl (fun _ => 0))) X.1 X.2.1 (X.2.2.2.2 _ harr) rfl w.2.2.2.2.1.1 w.1 w.2.1 w.2.2.1 w.2.2.2.1 (fun _ => rfl) hn hN hbytes hcells hslots hdg (fun q cA H1 hK h1 h2 h3 => ?_)
  have e1 := (hK.2 4 (cA, .int) rfl).2
  have e2 := (hK.2 0 (ca 0, .int) rfl).2
  have e3 : ca 0 = cA := Option.some.inj (e2.symm.trans e1)
  subst e3
  exact kk q H1 ⟨h1, h2, h3, w.2.2.2.1, w.2.2.2.2⟩
theorem n_newz (X : CallFix p m c cc nL s args TT own) (w : Wn D ca A H0 s ws H locs) {n : Int32} (N : Nat) (harr : Cond.arrayClass .boolean ∈ TT) (hn : ¬ n < 0) (hN : n.toNatClampNeg = N) (hbytes : N * componentBytes .boolean ≤ 536870912) (hcells : cells + 1 ≤ R.cells) (hslots : slots + N ≤ R.slots) (hdg : decode cc pc = .ok (.newarray .boolean, 2))
    (kk : ∀ (q : Nat) (H1 : Heap), Wn D ca A H0 s (ws ++ [(q, .inl (ca 1, N, .inl (fun _ => 0)))]) H1 locs → W p l e R s m args below meth c H1 locs (cells + 1) (slots + N) Q (F0 m (pc + 2) ls (.ref q :: rest))) : W p l e R s m args below meth c H locs cells slots Q (F0 m pc ls (.int n :: rest)) := by
  refine va_newa (atype := .boolean) (ty := .boolean) (a0 := (N, .inl (fun _ => 0))) X.1 X.2.1 (X.2.2.2.2 _ harr) rfl w.2.2.2.2.1.1 w.1 w.2.1 w.2.2.1 w.2.2.2.1 (fun _ => rfl) hn hN hbytes hcells hslots hdg (fun q cA H1 hK h1 h2 h3 => ?_)
  have e1 := (hK.2 4 (cA, .boolean) rfl).2
  have e2 := (hK.2 1 (ca 1, .boolean) rfl).2
  have e3 : ca 1 = cA := Option.some.inj (e2.symm.trans e1)
  subst e3
  exact kk q H1 ⟨h1, h2, h3, w.2.2.2.1, w.2.2.2.2⟩
theorem n_newq (X : CallFix p m c cc nL s args TT own) (w : Wn D ca A H0 s ws H locs) {n : Int32} (N : Nat) {C : String} (t : Nat) {index : Nat} (ht : (tysX ca)[t]? = some (ca t, .object C)) (hcl : Cond.classLink own index C ∈ TT) (hAO : va_AO C s) (hn : ¬ n < 0) (hN : n.toNatClampNeg = N) (hbytes : N * 4 ≤ 536870912) (hcells : cells + 1 ≤ R.cells) (hslots : slots + N ≤ R.slots) (hdg : decode cc pc = .ok (.anewarray index, 3))
    (kk : ∀ (q : Nat) (H1 : Heap), Wn D ca A H0 s (ws ++ [(q, .inl (ca t, N, .inr (.inr (.inr (.inr (fun _ => none))))))]) H1 locs → W p l e R s m args below meth c H1 locs (cells + 1) (slots + N) Q (F0 m (pc + 3) ls (.ref q :: rest))) : W p l e R s m args below meth c H locs cells slots Q (F0 m pc ls (.int n :: rest)) := by
  refine va_newq X.1 X.2.1 X.2.2.2.1 (X.2.2.2.2 _ hcl) hAO w.2.2.2.2.1.1 w.1 w.2.1 w.2.2.1 w.2.2.2.1 hn hN hbytes hcells hslots hdg (fun q cA H1 hK h1 h2 h3 => ?_)
  obtain ⟨-, -, -, -, -, e1⟩ := (hK.2 4 (cA, .object C) rfl).2
  obtain ⟨-, -, -, -, -, e2⟩ := (w.2.2.2.2.1.1.2 t (ca t, .object C) ht).2
  have e3 : ca t = cA := Option.some.inj (e2.symm.trans e1)
  rw [← e3] at h1 h2
  exact kk q H1 ⟨h1, h2, h3, w.2.2.2.1, w.2.2.2.2⟩
theorem n_get (X : CallFix p m c cc nL s args TT own) (w : Wn D ca A H0 s ws H locs) (k : Nat) {a ci index N : Nat} {C ref : String} {T : u_T} {fs : List Value} (he : ws[k]? = some (a, .inr (ci, fs))) (hc : vwCl[ci]? = some (C, T, N)) (hin : ∀ w ∈ u_ws C T N, w ∈ TT) (i : Nat) (hk : i < N) (hr : (T i).1 = ref) (hlink : Cond.fieldLink own index ref (T i).2.1 (T i).2.2.1 ∈ TT) {v : Value} (hv : fs[i]? = some v) (hdg : decode cc pc = .ok (.getfield index, 3))
    (kk : W p l e R s m args below meth c H locs cells slots Q (F0 m (pc + 3) ls (v :: rest))) : W p l e R s m args below meth c H locs cells slots Q (F0 m pc ls (.ref a :: rest)) := by
  subst hr
  exact va_get (D := D) (cl := vwCl) X.1 X.2.1 X.2.2.2.2 hin X.2.2.2.1 w.2.2.2.2.1.1 w.1 k he hc i hk (X.2.2.2.2 _ hlink) (fun _ h => h) hv hdg kk
theorem n_put (X : CallFix p m c cc nL s args TT own) (w : Wn D ca A H0 s ws H locs) (k : Nat) {a ci index N : Nat} {C ref : String} {T : u_T} {fs : List Value} (he : ws[k]? = some (a, .inr (ci, fs))) (hc : vwCl[ci]? = some (C, T, N)) (hin : ∀ w ∈ u_ws C T N, w ∈ TT) (ty0 : Nat → FieldType) (hty : ∀ k, k < N → parseFieldDescriptor (T k).2.2.1 = some (ty0 k)) (hnm : ∀ a, a < N → ∀ b, b < N → a ≠ b → (T a).2.1 ≠ (T b).2.1) (i : Nat) (hk : i < N) (hr : (T i).1 = ref) (hfin : (T i).2.2.2 = false) (hlink : Cond.fieldLink own index ref (T i).2.1 (T i).2.2.1 ∈ TT) {v : Value} (hn : narrow (ty0 i) v = v) (hfit : fits (ty0 i) v = true) (hl : i < fs.length) (hdg : decode cc pc = .ok (.putfield index, 3))
    (kk : ∀ (H1 : Heap) (locs1 : List Loc), Wn D ca A H0 s (ws.set k (a, .inr (ci, fs.set i v))) H1 locs1 → W p l e R s m args below meth c H1 locs1 cells slots Q (F0 m (pc + 3) ls rest)) : W p l e R s m args below meth c H locs cells slots Q (F0 m pc ls (v :: .ref a :: rest)) := by
  subst hr
  exact va_put (D := D) (cl := vwCl) X.1 X.2.1 X.2.2.2.2 hin ty0 hty hnm X.2.2.2.1 w.2.2.2.2.1.1 w.1 w.2.1 w.2.2.1 k he hc i hk (X.2.2.2.2 _ hlink) (fun _ h => h) hfin (hty i hk) hn hfit hl hdg (fun H1 locs1 h1 h2 h3 => kk H1 locs1 ⟨h1, h2, h3, w.2.2.2.1, w.2.2.2.2⟩)
theorem n_putF (X : CallFix p m c cc nL s args TT own) (w : Wn D ca A H0 s ws H locs) (hin2 : meth.name = "<init>") (k : Nat) {a ci index N : Nat} {C ref : String} {T : u_T} {fs : List Value} (he : ws[k]? = some (a, .inr (ci, fs))) (hc : vwCl[ci]? = some (C, T, N)) (hin : ∀ w ∈ u_ws C T N, w ∈ TT) (ty0 : Nat → FieldType) (hty : ∀ k, k < N → parseFieldDescriptor (T k).2.2.1 = some (ty0 k)) (hnm : ∀ a, a < N → ∀ b, b < N → a ≠ b → (T a).2.1 ≠ (T b).2.1) (i : Nat) (hk : i < N) (hr : (T i).1 = ref) (hfin : (T i).2.2.2 = true) (hown : (T i).1 = own) (hlink : Cond.fieldLink own index ref (T i).2.1 (T i).2.2.1 ∈ TT) {v : Value} (hn : narrow (ty0 i) v = v) (hfit : fits (ty0 i) v = true) (hl : i < fs.length) (hdg : decode cc pc = .ok (.putfield index, 3))
    (kk : ∀ (H1 : Heap) (locs1 : List Loc), Wn D ca A H0 s (ws.set k (a, .inr (ci, fs.set i v))) H1 locs1 → W p l e R s m args below meth c H1 locs1 cells slots Q (F0 m (pc + 3) ls rest)) : W p l e R s m args below meth c H locs cells slots Q (F0 m pc ls (v :: .ref a :: rest)) := by
  subst hr
  exact va_putF (D := D) (cl := vwCl) X.1 X.2.1 X.2.2.2.2 hin ty0 hty hnm X.2.2.2.1 w.2.2.2.2.1.1 w.1 w.2.1 w.2.2.1 k he hc i hk (X.2.2.2.2 _ hlink) (fun _ h => h) hfin hin2 hown (hty i hk) hn hfit hl hdg (fun H1 locs1 h1 h2 h3 => kk H1 locs1 ⟨h1, h2, h3, w.2.2.2.1, w.2.2.2.2⟩)
theorem n_iast (X : CallFix p m c cc nL s args TT own) (w : Wn D ca A H0 s ws H locs) (k : Nat) {a N : Nat} {f : Nat → Int32} (he : ws[k]? = some (a, .inl (ca 0, N, .inl f))) {i v : Int32} (hin : vp_in i N) (hdg : decode cc pc = .ok (.iastore, 1))
    (kk : ∀ (H1 : Heap) (locs1 : List Loc), Wn D ca A H0 s (ws.set k (a, .inl (ca 0, N, .inl (upd f i.toNatClampNeg v)))) H1 locs1 → W p l e R s m args below meth c H1 locs1 cells slots Q (F0 m (pc + 1) ls rest)) : W p l e R s m args below meth c H locs cells slots Q (F0 m pc ls (.int v :: .int i :: .ref a :: rest)) :=
  va_iast X.1 X.2.1 w.2.2.2.2.1.1 w.1 w.2.1 w.2.2.1 k 0 he rfl hin hdg (fun H1 locs1 h1 h2 h3 => kk H1 locs1 ⟨h1, h2, h3, w.2.2.2.1, w.2.2.2.2⟩)
theorem n_aast (X : CallFix p m c cc nL s args TT own) (w : Wn D ca A H0 s ws H locs) (k t kv ci : Nat) {a N v : Nat} {r : vw_C} {vs : List Value} {f : Nat → Option Nat} (he : ws[k]? = some (a, .inl (ca t, N, .inr (.inr (.inr (.inr f)))))) (ht : (tysX ca)[t]? = some (ca t, .object r.1)) (hv : ws[kv]? = some (v, .inr (ci, vs))) (hc : vwCl[ci]? = some r) {i : Int32} (hin : vp_in i N) (hdg : decode cc pc = .ok (.aastore, 1))
    (kk : ∀ (H1 : Heap) (locs1 : List Loc), Wn D ca A H0 s (ws.set k (a, .inl (ca t, N, .inr (.inr (.inr (.inr (va_up f i.toNatClampNeg (some v)))))))) H1 locs1 → W p l e R s m args below meth c H1 locs1 cells slots Q (F0 m (pc + 1) ls rest)) : W p l e R s m args below meth c H locs cells slots Q (F0 m pc ls (.ref v :: .int i :: .ref a :: rest)) :=
  va_astq X.1 X.2.1 w.2.2.2.2.1.1 w.1 w.2.1 w.2.2.1 k t kv ci he ht hv hc hin hdg (fun H1 locs1 h1 h2 h3 => kk H1 locs1 ⟨h1, h2, h3, w.2.2.2.1, w.2.2.2.2⟩)
variable {y : MethodName} {bytes : ByteArray} {maxL index mc ms : Nat} {rm : Room}
theorem n_preS (w : Wn D ca A H0 s ws H locs) {b : Nat} {pre : va_W} (k : Nat) (hk : [k].map (fun i => ws[i]?) = pre.map some) : PreS s H (va_Pc [.ref b] (fun U => U.heap.size = H.size ∧ va_P D vwCl pre U.heap ∧ Kc D ca U ∧ va_D (fun _ => True) pre)) [.ref b] := by
  refine ⟨fun a U g mk q => ?_, fun U hU hW => ⟨rfl, by rw [hU], ?_, Kc.warm hW w.2.2.2.2, (w.2.1.sub [k] rfl hk).weaken (fun _ _ _ _ => trivial)⟩⟩
  · obtain ⟨q0, q1, q2, q3, q4⟩ := q
    exact ⟨q0, q1, q2, Kc.same (s := U) rfl q3, q4⟩
  · rw [hU]
    intro j q hq
    have h1 : ([k].map (fun i => ws[i]?))[j]? = some (some q) := by rw [hk, List.getElem?_map, hq]; rfl
    rw [List.getElem?_map] at h1
    cases hi : [k][j]? with
    | none => rw [hi] at h1; cases h1
    | some i => rw [hi] at h1; exact w.1 i q (Option.some.inj h1)
theorem n_behind (w : Wn D ca A H0 s ws H locs) {pre wr w1 : va_W} (k : Nat) (isR : List Nat) (hk : [k].map (fun i => ws[i]?) = pre.map some) (hR : isR.map (fun i => ws[i]?) = wr.map some) (hn : va_nd isR = true) (hdis : ∀ i ∈ isR, i ∉ [k]) {t : State} {H1 : Heap} {locs1 : List Loc} (ht : t.heap = H1) (hB : va_P D vwCl w1 t.heap ∧ va_D (va_A pre H.size) w1) (hk1 : ∀ q : Nat, q < H.size → ¬ va_A pre H.size q → H1[q]? = H[q]?) (hS : va_S A H0 H1 locs1) : Wn D ca A H0 s (wr ++ w1) H1 locs1 := by
  have hFc := va_free (wc := pre) w.2.1 w.2.2.1 w.2.2.2.1 [k] hk
  obtain ⟨h1, h2⟩ := va_join (wr := wr) (w1 := w1) w.1 w.2.1 [k] isR hk hR hn hdis hk1 hFc (by rw [← ht]; exact hB.1) hB.2
  exact ⟨h1, h2, hS, w.2.2.2.1, w.2.2.2.2⟩
theorem n_callI (X : CallFix p m c cc nL s args TT own) (w : Wn D ca A H0 s ws H locs) {b : Nat} {pre wr : va_W} {px : (Nat → Nat) → Prop} {post : (Nat → Nat) → va_W} (k : Nat) (isR : List Nat) (hk : [k].map (fun i => ws[i]?) = pre.map some) (hR : isR.map (fun i => ws[i]?) = wr.map some) (hn : va_nd isR = true) (hdis : ∀ i ∈ isR, i ∉ [k])
    (hM : CtN l y bytes maxL rm D ca b H.size pre px post mc ms) (hcode : Cond.code y bytes maxL none ∈ TT) (hini : Cond.initialized y.cls ∈ TT) (hlink : Cond.methodLink own index y ∈ TT) (hinst : Cond.instanceMethod y ∈ TT) (hy : y.name = "<init>") (hd : y.cls ≠ "java/lang/invoke/MethodHandle" ∧ y.cls ≠ "java/lang/invoke/VarHandle" ∧ (parseMethodDescriptor y.desc).map (fun d => d.parameters.length) = some 0) (hrc : rm.cells = mc) (hrs : rm.slots = ms) (hRm : rm.frames + 1 ≤ R.frames ∧ 8 + (maxL + 11) + rm.locals ≤ R.locals) (hsz : ls.size = nL) (hroom : (rest.map fun v => v.category).sum ≤ 8) (hdg : decode cc pc = .ok (.invokespecial index, 3)) (hf : cells + mc ≤ R.cells ∧ slots + ms ≤ R.slots)
    (kk : ∀ (u : Nat → Nat) (H1 : Heap) (locs1 : List Loc), px u → Wn D ca A H0 s (wr ++ post u) H1 locs1 → W p l e R s m args below meth c H1 locs1 (cells + mc) (slots + ms) Q (F0 m (pc + 3) ls rest)) : W p l e R s m args below meth c H locs cells slots Q (F0 m pc ls (.ref b :: rest)) := by
  have hFc := va_free (wc := pre) w.2.1 w.2.2.1 w.2.2.2.1 [k] hk
  refine va_callv (va_runI (As := []) (rest := rest) X hM (cwI 0 X.2.2.2.2 (gT hcode) rfl hrc hrs (X.2.2.2.2 _ hini) (X.2.2.2.2 _ hlink) (X.2.2.2.2 _ hinst) hy hd hRm) (n_preS w k hk) rfl rfl hsz rfl (lv_room hroom) hdg hf) w.2.2.1 (fun q _ h => hFc q h) hFc (fun u t H1 locs1 ht _ hw hB _ hk1 hS => ?_)
  exact kk u H1 locs1 hw (n_behind w k isR hk hR hn hdis ht hB hk1 hS)
theorem n_callN (X : CallFix p m c cc nL s args TT own) (w : Wn D ca A H0 s ws H locs) {b : Nat} {host : String} {pre wr : va_W} {px : (Nat → Nat) → Prop} {post : (Nat → Nat) → va_W} (k : Nat) (isR : List Nat) (hk : [k].map (fun i => ws[i]?) = pre.map some) (hR : isR.map (fun i => ws[i]?) = wr.map some) (hn : va_nd isR = true) (hdis : ∀ i ∈ isR, i ∉ [k])
    (hM : CtN l y bytes maxL rm D ca b H.size pre px post mc ms) (hcode : Cond.code y bytes maxL none ∈ TT) (hini : Cond.initialized y.cls ∈ TT) (hlink : va_Nw (.methodLinkNest own index y host) s) (hinst : Cond.instanceMethod y ∈ TT) (hy : y.name = "<init>") (hd : y.cls ≠ "java/lang/invoke/MethodHandle" ∧ y.cls ≠ "java/lang/invoke/VarHandle" ∧ (parseMethodDescriptor y.desc).map (fun d => d.parameters.length) = some 0) (hrc : rm.cells = mc) (hrs : rm.slots = ms) (hRm : rm.frames + 1 ≤ R.frames ∧ 8 + (maxL + 11) + rm.locals ≤ R.locals) (hsz : ls.size = nL) (hroom : (rest.map fun v => v.category).sum ≤ 8) (hdg : decode cc pc = .ok (.invokespecial index, 3)) (hf : cells + mc ≤ R.cells ∧ slots + ms ≤ R.slots)
    (kk : ∀ (u : Nat → Nat) (H1 : Heap) (locs1 : List Loc), px u → Wn D ca A H0 s (wr ++ post u) H1 locs1 → W p l e R s m args below meth c H1 locs1 (cells + mc) (slots + ms) Q (F0 m (pc + 3) ls rest)) : W p l e R s m args below meth c H locs cells slots Q (F0 m pc ls (.ref b :: rest)) := by
  have hFc := va_free (wc := pre) w.2.1 w.2.2.1 w.2.2.2.1 [k] hk
  refine va_callv (va_runIN (As := []) (rest := rest) X hM ⟨va_cnB 0 X.2.2.2.2 (gT hcode) rfl hrc hrs hlink (X.2.2.2.2 _ hini) hd hRm, hy, X.2.2.2.2 _ hinst⟩ (n_preS w k hk) rfl rfl hsz rfl (lv_room hroom) hdg hf) w.2.2.1 (fun q _ h => hFc q h) hFc (fun u t H1 locs1 ht _ hw hB _ hk1 hS => ?_)
  exact kk u H1 locs1 hw (n_behind w k isR hk hR hn hdis ht hB hk1 hS)
/-- Arrays.fill on one array of the world -/
theorem n_fill (X : CallFix p m c cc nL s args TT own) (w : Wn D ca A H0 s ws H locs) (k : Nat) (isR : List Nat) {a N : Nat} {f : Nat → Int32} {wr : va_W} {v : Int32} {mem' : Mm} (hk : [k].map (fun i => ws[i]?) = [((a, .inl (ca 0, N, .inl f)) : Nat × va_E)].map some) (hR : isR.map (fun i => ws[i]?) = wr.map some) (hn : va_nd isR = true) (hdis : ∀ i ∈ isR, i ∉ [k])
    (hf0 : fJ7_fill_53178 (fun _ => f) N 0 v = some (mem', ())) (hlink : Cond.methodLink own index yJ7_fill_53178 ∈ TT) (hG : Cond.static yJ7_fill_53178 ∈ TT ∧ Cond.initialized yJ7_fill_53178.cls ∈ TT ∧ Cond.code yJ7_fill_53178 cJ7_fill_53178 4 none ∈ TT) (hRm : 0 + 1 ≤ R.frames ∧ 8 + (4 + 11) + 0 ≤ R.locals) (hsz : ls.size = nL) (hroom : (rest.map fun v => v.category).sum ≤ 8) (hdg : decode cc pc = .ok (.invokestatic index, 3)) (hf : cells + 0 ≤ R.cells ∧ slots + 0 ≤ R.slots)
    (kk : ∀ (H1 : Heap) (locs1 : List Loc), Wn D ca A H0 s (wr ++ [(a, .inl (ca 0, N, .inl (mem' 0)))]) H1 locs1 → W p l e R s m args below meth c H1 locs1 cells slots Q (F0 m (pc + 3) ls rest)) : W p l e R s m args below meth c H locs cells slots Q (F0 m pc ls (.int v :: .ref a :: rest)) := by
  have hM := kJ7_fill_53178 (lay := [.inl (0, N)]) l D ca (fun _ => a) (fun _ => f) N 0 v rfl hf0
  have hAe : ∀ q, AA (fun _ => a) 1 q → va_A [((a, .inl (ca 0, N, .inl f)) : Nat × va_E)] H.size q := fun q h => by
    obtain ⟨b, -, rfl⟩ := h
    exact Or.inl ⟨0, _, rfl⟩
  have hFc := va_free (wc := [((a, .inl (ca 0, N, .inl f)) : Nat × va_E)]) w.2.1 w.2.2.1 w.2.2.2.1 [k] hk
  have hPk : va_P D vwCl [((a, .inl (ca 0, N, .inl f)) : Nat × va_E)] H := by
    intro j q hq
    have h1 : ([k].map (fun i => ws[i]?))[j]? = some (some q) := by rw [hk, List.getElem?_map, hq]; rfl
    rw [List.getElem?_map] at h1
    cases hi : [k][j]? with
    | none => rw [hi] at h1; cases h1
    | some i => rw [hi] at h1; exact w.1 i q (Option.some.inj h1)
  have hDj : Dj (fun _ => a) ([.inl (0, N)] : List Kd).length := fun i j hi hj _ => by
    simp only [List.length_cons, List.length_nil] at hi hj
    omega
  refine va_callv (va_runS (As := [.ref a, .int v]) (rest := rest) X hM (va_cwS 2 X.2.2.2.2 (gTS hlink hG.1 hG.2.1 hG.2.2) rfl rfl rfl hdJ7_fill_53178 hRm) ⟨PreW.blind, fun U hU hW => ⟨rfl, by rw [hU]; exact hPk, Kx.warm hW w.2.2.2.2.1, hDj⟩⟩ rfl rfl hsz rfl (lv_room hroom) hdg hf) w.2.2.1 (fun q _ h => hFc q (hAe q h)) (fun q h => hFc q (hAe q h)) (fun u t H1 locs1 ht _ _ hB _ hk1 hS => ?_)
  refine kk H1 locs1 (n_behind w k isR hk hR hn hdis ht ⟨hB, ?_⟩ (fun q h1 h2 => hk1 q h1 (fun h => h2 (hAe q h))) hS)
  exact ⟨fun i j p q hi hj _ => by
    have h1 := (List.getElem?_eq_some_iff.mp hi).1
    have h2 := (List.getElem?_eq_some_iff.mp hj).1
    simp only [List.length_cons, List.length_nil] at h1 h2
    omega, fun i q hq => by
    have h1 := (List.getElem?_eq_some_iff.mp hq).1
    simp only [List.length_cons, List.length_nil] at h1
    rw [show i = 0 by omega] at hq
    cases hq
    exact Or.inl ⟨0, _, rfl⟩⟩
theorem n_vret {mc ms h0 : Nat} {pre : va_W} {px : (Nat → Nat) → Prop} {post : (Nat → Nat) → va_W} (X : CallFix p m c cc nL s args TT own) (M : Mt meth none) (w : Wn D ca (va_A pre s.heap.size) s.heap s ws H locs) (u : Nat → Nat) (hx : px u) (is : List Nat) (h1 : is.filterMap (fun i => ws[i]?) = post u) (h2 : va_nd is = true) (h3 : is.map (fun i => ws[i]?) = (post u).map some) (hdg : decode cc pc = .ok (.return_, 1)) : W p l e R s m args below meth c H locs mc ms (MQ below (va_Qv px (fun u t => va_P D vwCl (post u) t.heap ∧ va_D (va_A pre s.heap.size) (post u)) (va_A pre s.heap.size)) args s mc ms (va_A pre s.heap.size)) (F0 m pc ls []) :=
  W.vret X.1 X.2.1 M.1 (fun t ht hW => ⟨⟨u, rfl, hx, by subst ht; exact w.1.sub is h1, w.2.1.sub is h2 h3⟩, w.2.2.1.F ht⟩) w.2.2.1.2.2 hdg M.2
theorem CtN.of {h0 sz : Nat} {pre : va_W} {px : (Nat → Nat) → Prop} {post : (Nat → Nat) → va_W} (hy : plainName y.cls = true) (hle : 1 ≤ maxL) (hmn : y.name = "<init>")
    (body : ∀ p e s m args below meth c ls, CallFix p m c cc maxL s args TT y.cls → Mt meth none → meth.name = "<init>" → s.heap.size = sz → Wn D ca (va_A pre sz) s.heap s pre s.heap [] → lv_has ls maxL [(0, .ref h0)] → W p l e rm s m args below meth c s.heap [] 0 0 (MQ below (va_Qv px (fun u t => va_P D vwCl (post u) t.heap ∧ va_D (va_A pre sz) (post u)) (va_A pre sz)) args s mc ms (va_A pre sz)) (F0 m 0 ls [])) : CtN l y cc maxL rm D ca h0 sz pre px post mc ms := by
  refine Met.ofW (cc := cc) (maxL := maxL) (ret := none) hy rfl ?_
  intro p e s m args below meth c s₁ B hml hv
  obtain ⟨rfl, hsz, hP, hK, hD⟩ := hv
  have hl := lv_entry [.ref h0] (n := maxL) hle
  rw [lg_entry_eq]
  have hnm : meth.name = "<init>" := (name_of_methodNamed B.named B.method).1.trans hmn
  exact body p e s m _ below meth c _ ⟨B.exec, B.bytes, hml, findClass_of_methodNamed B.named, fun w h => atoms_spec (ws := wsT y cc maxL none) B.pre w (List.mem_cons_of_mem _ h)⟩ ⟨B.returns, B.notSynchronized⟩ hnm hsz ⟨hP, hD.self, va_S.rf, fun q h => Or.inr (by rw [← hsz]; exact h), hK⟩ hl
end NW
