/-! MY ROWS: a world by a layout: blocks, their kinds, a memory of ints; one-instruction rows over it; contracts over it -/
/-- the ints of a world, by block and place -/
abbrev Mm : Type := Nat → Nat → Int32
def wr (m : Mm) (b i : Nat) (v : Int32) : Mm := fun b' i' => if b' = b then (if i' = i then v else m b' i') else m b' i'
theorem wr_row (m : Mm) (b i : Nat) (v : Int32) : wr m b i v b = upd (m b) i v := by
  funext j
  simp [wr, upd]
theorem wr_ne (m : Mm) {b j : Nat} (i : Nat) (v : Int32) (h : j ≠ b) : wr m b i v j = m j := by
  funext k
  simp [wr, h]
theorem wr_at (m : Mm) (b i : Nat) (v : Int32) : wr m b i v b i = v := by simp [wr]
/-- a block's kind: an array of ints or booleans (type, length) | an array of references (type, length, where its first lies from it, how far apart) | an object (class, fields: an int, or a reference to a block that lies so far from it) -/
abbrev Kd : Type := (Nat × Nat) ⊕ ((Nat × Nat × Nat × Nat) ⊕ (Nat × List (Option Nat)))
def fv (ad : Nat → Nat) (b : Nat) (x : Int32) : Option Nat → Value
  | none => .int x
  | some r => .ref (ad (b + r))
def ce (ca : Nat → ClassId) (ad : Nat → Nat) (m : Mm) (b : Nat) : Kd → va_E
  | .inl (t, n) => .inl (ca t, n, .inl (m b))
  | .inr (.inl (t, n, base, st)) => .inl (ca t, n, .inr (.inr (.inr (.inr (fun i => some (ad (b + base + st * i)))))))
  | .inr (.inr (ci, fl)) => .inr (ci, fl.mapIdx (fun i o => fv ad b (m b i) o))
def wd (ca : Nat → ClassId) (ad : Nat → Nat) (m : Mm) (lay : List Kd) : va_W := lay.mapIdx (fun b k => (ad b, ce ca ad m b k))
theorem wd_get {ca : Nat → ClassId} {ad : Nat → Nat} {m : Mm} {lay : List Kd} {b : Nat} {k : Kd} (h : lay[b]? = some k) : (wd ca ad m lay)[b]? = some (ad b, ce ca ad m b k) := by
  simp [wd, List.getElem?_mapIdx, h]
theorem wd_len {ca : Nat → ClassId} {ad : Nat → Nat} {m : Mm} {lay : List Kd} : (wd ca ad m lay).length = lay.length := by simp [wd]
theorem wd_at {ca : Nat → ClassId} {ad : Nat → Nat} {m : Mm} {lay : List Kd} {b : Nat} {q : Nat × va_E} (h : (wd ca ad m lay)[b]? = some q) : b < lay.length ∧ q.1 = ad b := by
  have hl := (List.getElem?_eq_some_iff.mp h).1
  rw [wd_len] at hl
  have h2 := wd_get (ca := ca) (ad := ad) (m := m) (List.getElem?_eq_getElem hl)
  rw [h] at h2
  exact ⟨hl, by rw [Option.some.inj h2]⟩
theorem wd_lt {lay : List Kd} {b : Nat} {k : Kd} (h : lay[b]? = some k) : b < lay.length := (List.getElem?_eq_some_iff.mp h).1
theorem ce_eq {ca : Nat → ClassId} {ad : Nat → Nat} {m m' : Mm} {b : Nat} (h : m' b = m b) (k : Kd) : ce ca ad m' b k = ce ca ad m b k := by
  match k with
  | .inl (t, n) => simp only [ce, h]
  | .inr (.inl (t, n, base, st)) => rfl
  | .inr (.inr (ci, fl)) => simp only [ce, h]
theorem wd_set {ca : Nat → ClassId} {ad : Nat → Nat} {m m' : Mm} {lay : List Kd} {b : Nat} {k : Kd} (h : lay[b]? = some k) {e : va_E} (he : e = ce ca ad m' b k) (hn : ∀ j, j ≠ b → m' j = m j) : (wd ca ad m lay).set b (ad b, e) = wd ca ad m' lay := by
  apply List.ext_getElem?
  intro j
  by_cases hj : j = b
  · subst hj
    rw [List.getElem?_set_self (by rw [wd_len]; exact wd_lt h), wd_get h, he]
  · rw [List.getElem?_set_ne (fun q => hj q.symm)]
    simp only [wd, List.getElem?_mapIdx]
    cases hl : lay[j]? with
    | none => rfl
    | some k2 => simp only [Option.map_some, ce_eq (hn j hj)]
theorem wd_setA {ca : Nat → ClassId} {ad : Nat → Nat} {m : Mm} {lay : List Kd} {b t n : Nat} (h : lay[b]? = some (.inl (t, n))) (i : Nat) (v : Int32) : (wd ca ad m lay).set b (ad b, .inl (ca t, n, .inl (upd (m b) i v))) = wd ca ad (wr m b i v) lay :=
  wd_set h (by simp only [ce, wr_row]) (fun j hj => wr_ne m i v hj)
theorem wd_setF {ca : Nat → ClassId} {ad : Nat → Nat} {m : Mm} {lay : List Kd} {b ci i : Nat} {fl : List (Option Nat)} (h : lay[b]? = some (.inr (.inr (ci, fl)))) (hi : fl[i]? = some none) (v : Int32) : (wd ca ad m lay).set b (ad b, .inr (ci, (fl.mapIdx (fun i o => fv ad b (m b i) o)).set i (.int v))) = wd ca ad (wr m b i v) lay := by
  refine wd_set h ?_ (fun j hj => wr_ne m i v hj)
  simp only [ce, wr_row]
  congr 2
  apply List.ext_getElem?
  intro j
  by_cases hj : j = i
  · subst hj
    rw [List.getElem?_set_self (by rw [List.length_mapIdx]; exact (List.getElem?_eq_some_iff.mp hi).1), List.getElem?_mapIdx, hi]
    simp [fv, upd]
  · rw [List.getElem?_set_ne (fun q => hj q.symm), List.getElem?_mapIdx, List.getElem?_mapIdx]
    cases fl[j]? with
    | none => rfl
    | some o => simp [upd, hj]
/-- the addresses of a world's blocks -/
def AA (ad : Nat → Nat) (n : Nat) : Nat → Prop := fun q => ∃ b, b < n ∧ q = ad b
def Dj (ad : Nat → Nat) (n : Nat) : Prop := ∀ i j, i < n → j < n → ad i = ad j → i = j
theorem wd_D {ca : Nat → ClassId} {ad : Nat → Nat} {m : Mm} {lay : List Kd} {A : Nat → Prop} (hd : Dj ad lay.length) (hA : ∀ q, AA ad lay.length q → A q) : va_D A (wd ca ad m lay) := by
  refine ⟨fun i j x y hi hj hxy => ?_, fun k q hk => ?_⟩
  · obtain ⟨h1, h2⟩ := wd_at hi
    obtain ⟨h3, h4⟩ := wd_at hj
    exact hd i j h1 h3 (by rw [← h2, ← h4, hxy])
  · obtain ⟨h1, h2⟩ := wd_at hk
    exact hA _ ⟨k, h1, h2⟩
/-- the array classes: ints, booleans, places, walks -/
def tysX (ca : Nat → ClassId) : List (ClassId × FieldType) := [(ca 0, .int), (ca 1, .boolean), (ca 2, .object "WalkHouse$Place"), (ca 3, .object "WalkHouse$Walk")]
def nwP1 : Cond := .methodLinkNest RX3 19 yX8_firstOf RX8
def nwP2 : Cond := .methodLinkNest RX3 35 yX8_restOf RX8
def nwW : Cond := .methodLinkNest RX7 37 yX8_restOf RX8
/-- what the tables say -/
def Kx (D : va_G) (ca : Nat → ClassId) (U : State) : Prop := va_K D vwCl (tysX ca) U ∧ va_Nw nwP1 U ∧ va_Nw nwP2 U ∧ va_Nw nwW U
theorem Kx.warm {D : va_G} {ca : Nat → ClassId} {s U : State} (hW : s.WarmedH U.vm) (h : Kx D ca s) : Kx D ca U :=
  ⟨va_K.moved hW.alike h.1, va_Nw.warmM hW h.2.1, va_Nw.warmM hW h.2.2.1, va_Nw.warmM hW h.2.2.2⟩
theorem Kx.same {D : va_G} {ca : Nat → ClassId} {s U : State} (hW : s.vm = U.vm) (h : Kx D ca s) : Kx D ca U :=
  ⟨va_K.moved (by rw [hW]; exact Vm.Alike.refl U.vm) h.1, va_Nw.same rfl hW h.2.1, va_Nw.same rfl hW h.2.2.1, va_Nw.same rfl hW h.2.2.2⟩
/-- the world in a walk -/
def Wd (D : va_G) (ca : Nat → ClassId) (ad : Nat → Nat) (lay : List Kd) (A : Nat → Prop) (H0 : Heap) (s : State) (mem : Mm) (H : Heap) (locs : List Loc) : Prop :=
  va_P D vwCl (wd ca ad mem lay) H ∧ va_S A H0 H locs ∧ (Dj ad lay.length ∧ ∀ q, AA ad lay.length q → A q) ∧ Kx D ca s
def PreW (D : va_G) (ca : Nat → ClassId) (ad : Nat → Nat) (lay : List Kd) (mem : Mm) (av : List Value) : Array Value → State → Prop :=
  va_Pc av (fun U => va_P D vwCl (wd ca ad mem lay) U.heap ∧ Kx D ca U ∧ Dj ad lay.length)
theorem PreW.blind {D : va_G} {ca : Nat → ClassId} {ad : Nat → Nat} {lay : List Kd} {mem : Mm} {av : List Value} : FrameBlind (PreW D ca ad lay mem av) := by
  intro a U g mk q
  obtain ⟨q0, q1, q2, q3⟩ := q
  exact ⟨q0, q1, Kx.same (s := U) rfl q2, q3⟩
/-- contracts: an int (a boolean), nothing, a block or null -/
def CtI (l : Launch) (y : MethodName) (bytes : ByteArray) (maxL : Nat) (ret : Option FieldType) (rm : Room) (D : va_G) (ca : Nat → ClassId) (ad : Nat → Nat) (lay : List Kd) (mem : Mm) (av : List Value) (mem' : Mm) (r : Int32) : Prop :=
  Met l y (wsT y bytes maxL ret) rm (PreW D ca ad lay mem av) (va_Qi (fun (rr : Int32) (_ : Unit) => rr = r) (fun _ t => va_P D vwCl (wd ca ad mem' lay) t.heap) (AA ad lay.length)) 0 0 (AA ad lay.length)
def CtV (l : Launch) (y : MethodName) (bytes : ByteArray) (maxL : Nat) (ret : Option FieldType) (rm : Room) (D : va_G) (ca : Nat → ClassId) (ad : Nat → Nat) (lay : List Kd) (mem : Mm) (av : List Value) (mem' : Mm) : Prop :=
  Met l y (wsT y bytes maxL ret) rm (PreW D ca ad lay mem av) (va_Qv (fun (_ : Unit) => True) (fun _ t => va_P D vwCl (wd ca ad mem' lay) t.heap) (AA ad lay.length)) 0 0 (AA ad lay.length)
def CtQ (l : Launch) (y : MethodName) (bytes : ByteArray) (maxL : Nat) (ret : Option FieldType) (rm : Room) (D : va_G) (ca : Nat → ClassId) (ad : Nat → Nat) (lay : List Kd) (mem : Mm) (av : List Value) (mem' : Mm) (r : Option Nat) : Prop :=
  Met l y (wsT y bytes maxL ret) rm (PreW D ca ad lay mem av) (va_Qq (fun rr (_ : Unit) => rr = r.map ad) (fun _ t => va_P D vwCl (wd ca ad mem' lay) t.heap) (AA ad lay.length)) 0 0 (AA ad lay.length)
section RW
variable {p : Program} {l : Launch} {e : Env} {R : Room} {s : State} {m : MethodId} {args : Array Value} {below : List Frame} {meth : Method} {c : Code} {H : Heap} {locs : List Loc} {cells slots : Nat} {Q : State → Prop}
variable {cc : ByteArray} {pc nL : Nat} {ls : Array Slot} {rest : List Value} {D : va_G} {A : Nat → Prop} {H0 : Heap} {Ts : List Cond} {own : String}
variable {ca : Nat → ClassId} {ad : Nat → Nat} {lay : List Kd} {mem : Mm}
theorem r_get (X : CallFix p m c cc nL s args Ts own) (w : Wd D ca ad lay A H0 s mem H locs) {b ci index N : Nat} {C ref : String} {T : u_T} {fl : List (Option Nat)} (hlay : lay[b]? = some (.inr (.inr (ci, fl)))) (hc : vwCl[ci]? = some (C, T, N)) (hin : ∀ w ∈ u_ws C T N, w ∈ Ts) (i : Nat) (hi : fl[i]? = some none) (hk : i < N) (hr : (T i).1 = ref) (hlink : Cond.fieldLink own index ref (T i).2.1 (T i).2.2.1 ∈ Ts) (hdg : decode cc pc = .ok (.getfield index, 3))
    (kk : W p l e R s m args below meth c H locs cells slots Q (F0 m (pc + 3) ls (.int (mem b i) :: rest))) : W p l e R s m args below meth c H locs cells slots Q (F0 m pc ls (.ref (ad b) :: rest)) := by
  subst hr
  refine va_get (D := D) (cl := vwCl) X.1 X.2.1 X.2.2.2.2 hin X.2.2.2.1 w.2.2.2.1 w.1 b (wd_get hlay) hc i hk (X.2.2.2.2 _ hlink) (fun _ h => h) ?_ hdg kk
  rw [List.getElem?_mapIdx, hi]; rfl
theorem r_getr (X : CallFix p m c cc nL s args Ts own) (w : Wd D ca ad lay A H0 s mem H locs) {b ci index N r b2 : Nat} {C ref : String} {T : u_T} {fl : List (Option Nat)} (hlay : lay[b]? = some (.inr (.inr (ci, fl)))) (hc : vwCl[ci]? = some (C, T, N)) (hin : ∀ w ∈ u_ws C T N, w ∈ Ts) (i : Nat) (hi : fl[i]? = some (some r)) (hb2 : b + r = b2) (hk : i < N) (hr : (T i).1 = ref) (hlink : Cond.fieldLink own index ref (T i).2.1 (T i).2.2.1 ∈ Ts) (hdg : decode cc pc = .ok (.getfield index, 3))
    (kk : W p l e R s m args below meth c H locs cells slots Q (F0 m (pc + 3) ls (.ref (ad b2) :: rest))) : W p l e R s m args below meth c H locs cells slots Q (F0 m pc ls (.ref (ad b) :: rest)) := by
  subst hr; subst hb2
  refine va_get (D := D) (cl := vwCl) X.1 X.2.1 X.2.2.2.2 hin X.2.2.2.1 w.2.2.2.1 w.1 b (wd_get hlay) hc i hk (X.2.2.2.2 _ hlink) (fun _ h => h) ?_ hdg kk
  rw [List.getElem?_mapIdx, hi]; rfl
theorem r_put (X : CallFix p m c cc nL s args Ts own) (w : Wd D ca ad lay A H0 s mem H locs) {b ci index N : Nat} {C ref : String} {T : u_T} {fl : List (Option Nat)} (hlay : lay[b]? = some (.inr (.inr (ci, fl)))) (hc : vwCl[ci]? = some (C, T, N)) (hin : ∀ w ∈ u_ws C T N, w ∈ Ts) (ty0 : Nat → FieldType) (hty : ∀ k, k < N → parseFieldDescriptor (T k).2.2.1 = some (ty0 k)) (hnm : ∀ a, a < N → ∀ b, b < N → a ≠ b → (T a).2.1 ≠ (T b).2.1) (i : Nat) (hi : fl[i]? = some none) (hk : i < N) (hr : (T i).1 = ref) (hfin : (T i).2.2.2 = false) (hlink : Cond.fieldLink own index ref (T i).2.1 (T i).2.2.1 ∈ Ts) {v : Int32} (hn : narrow (ty0 i) (.int v) = .int v) (hfit : fits (ty0 i) (.int v) = true) (hdg : decode cc pc = .ok (.putfield index, 3))
    (kk : ∀ (H1 : Heap) (locs1 : List Loc), Wd D ca ad lay A H0 s (wr mem b i v) H1 locs1 → W p l e R s m args below meth c H1 locs1 cells slots Q (F0 m (pc + 3) ls rest)) : W p l e R s m args below meth c H locs cells slots Q (F0 m pc ls (.int v :: .ref (ad b) :: rest)) := by
  subst hr
  refine va_put (D := D) (cl := vwCl) X.1 X.2.1 X.2.2.2.2 hin ty0 hty hnm X.2.2.2.1 w.2.2.2.1 w.1 (wd_D w.2.2.1.1 w.2.2.1.2) w.2.1 b (wd_get hlay) hc i hk (X.2.2.2.2 _ hlink) (fun _ h => h) hfin (hty i hk) hn hfit ?_ hdg (fun H1 locs1 h1 _ h3 => kk H1 locs1 ⟨?_, h3, w.2.2.1, w.2.2.2⟩)
  · rw [List.length_mapIdx]; exact (List.getElem?_eq_some_iff.mp hi).1
  · rw [← wd_setF hlay hi v]; exact h1
theorem r_iald (X : CallFix p m c cc nL s args Ts own) (w : Wd D ca ad lay A H0 s mem H locs) {b n : Nat} (hlay : lay[b]? = some (.inl (0, n))) {i : Int32} (hin : vp_in i n) (hdg : decode cc pc = .ok (.iaload, 1))
    (kk : W p l e R s m args below meth c H locs cells slots Q (F0 m (pc + 1) ls (.int (mem b i.toNatClampNeg) :: rest))) : W p l e R s m args below meth c H locs cells slots Q (F0 m pc ls (.int i :: .ref (ad b) :: rest)) :=
  va_iald X.1 X.2.1 w.2.2.2.1 w.1 b 0 (wd_get hlay) rfl hin hdg kk
theorem r_zald (X : CallFix p m c cc nL s args Ts own) (w : Wd D ca ad lay A H0 s mem H locs) {b n : Nat} (hlay : lay[b]? = some (.inl (1, n))) {i : Int32} (hin : vp_in i n) (hdg : decode cc pc = .ok (.baload, 1))
    (kk : W p l e R s m args below meth c H locs cells slots Q (F0 m (pc + 1) ls (.int (mem b i.toNatClampNeg) :: rest))) : W p l e R s m args below meth c H locs cells slots Q (F0 m pc ls (.int i :: .ref (ad b) :: rest)) :=
  va_zald X.1 X.2.1 w.2.2.2.1 w.1 b 1 (wd_get hlay) rfl hin hdg kk
theorem r_iast (X : CallFix p m c cc nL s args Ts own) (w : Wd D ca ad lay A H0 s mem H locs) {b n : Nat} (hlay : lay[b]? = some (.inl (0, n))) {i v : Int32} (hin : vp_in i n) (hdg : decode cc pc = .ok (.iastore, 1))
    (kk : ∀ (H1 : Heap) (locs1 : List Loc), Wd D ca ad lay A H0 s (wr mem b i.toNatClampNeg v) H1 locs1 → W p l e R s m args below meth c H1 locs1 cells slots Q (F0 m (pc + 1) ls rest)) : W p l e R s m args below meth c H locs cells slots Q (F0 m pc ls (.int v :: .int i :: .ref (ad b) :: rest)) := by
  refine va_iast X.1 X.2.1 w.2.2.2.1 w.1 (wd_D w.2.2.1.1 w.2.2.1.2) w.2.1 b 0 (wd_get hlay) rfl hin hdg (fun H1 locs1 h1 _ h3 => kk H1 locs1 ⟨?_, h3, w.2.2.1, w.2.2.2⟩)
  rw [← wd_setA hlay]; exact h1
theorem r_zast (X : CallFix p m c cc nL s args Ts own) (w : Wd D ca ad lay A H0 s mem H locs) {b n : Nat} (hlay : lay[b]? = some (.inl (1, n))) {i v : Int32} (hv : v &&& 1 = v) (hin : vp_in i n) (hdg : decode cc pc = .ok (.bastore, 1))
    (kk : ∀ (H1 : Heap) (locs1 : List Loc), Wd D ca ad lay A H0 s (wr mem b i.toNatClampNeg v) H1 locs1 → W p l e R s m args below meth c H1 locs1 cells slots Q (F0 m (pc + 1) ls rest)) : W p l e R s m args below meth c H locs cells slots Q (F0 m pc ls (.int v :: .int i :: .ref (ad b) :: rest)) := by
  refine va_zast X.1 X.2.1 w.2.2.2.1 w.1 (wd_D w.2.2.1.1 w.2.2.1.2) w.2.1 b 1 (wd_get hlay) rfl hin hdg (fun H1 locs1 h1 _ h3 => kk H1 locs1 ⟨?_, h3, w.2.2.1, w.2.2.2⟩)
  have hv2 : vp_nar .boolean v = v := by simp only [vp_nar, narrow]; exact hv
  rw [hv2] at h1
  rw [← wd_setA hlay]; exact h1
theorem r_aald (X : CallFix p m c cc nL s args Ts own) (w : Wd D ca ad lay A H0 s mem H locs) {b t n base st b2 : Nat} {C : String} (hlay : lay[b]? = some (.inr (.inl (t, n, base, st)))) (ht : (tysX ca)[t]? = some (ca t, .object C)) {i : Int32} (hin : vp_in i n) (hb2 : b + base + st * i.toNatClampNeg = b2) (hdg : decode cc pc = .ok (.aaload, 1))
    (kk : W p l e R s m args below meth c H locs cells slots Q (F0 m (pc + 1) ls (.ref (ad b2) :: rest))) : W p l e R s m args below meth c H locs cells slots Q (F0 m pc ls (.int i :: .ref (ad b) :: rest)) := by
  subst hb2
  exact va_aldq X.1 X.2.1 w.2.2.2.1 w.1 b t (wd_get hlay) ht hin hdg kk
theorem r_alen (X : CallFix p m c cc nL s args Ts own) (w : Wd D ca ad lay A H0 s mem H locs) {b n : Nat} (hlay : lay[b]? = some (.inl (0, n))) {v : Int32} (hv : Int32.ofNat n = v) (hdg : decode cc pc = .ok (.arraylength, 1))
    (kk : W p l e R s m args below meth c H locs cells slots Q (F0 m (pc + 1) ls (.int v :: rest))) : W p l e R s m args below meth c H locs cells slots Q (F0 m pc ls (.ref (ad b) :: rest)) :=
  va_alen X.1 X.2.1 w.2.2.2.1 w.1 b 0 (wd_get hlay) (ty := .int) rfl hv hdg kk
/-- behind a call -/
theorem r_back (w : Wd D ca ad lay A H0 s mem H locs) {mem' : Mm} {t : State} {H1 : Heap} {locs1 : List Loc} (ht : t.heap = H1) (hB : va_P D vwCl (wd ca ad mem' lay) t.heap) (hS : va_S A H0 H1 locs1) : Wd D ca ad lay A H0 s mem' H1 locs1 :=
  ⟨by rw [← ht]; exact hB, hS, w.2.2.1, w.2.2.2⟩
theorem r_pre (w : Wd D ca ad lay A H0 s mem H locs) (av : List Value) : PreS s H (PreW D ca ad lay mem av) av :=
  ⟨PreW.blind, fun U hU hW => ⟨rfl, by rw [hU]; exact w.1, Kx.warm hW w.2.2.2, w.2.2.1.1⟩⟩
theorem r_recv (w : Wd D ca ad lay A H0 s mem H locs) {b ci N : Nat} {C : String} {T : u_T} {fl : List (Option Nat)} (hlay : lay[b]? = some (.inr (.inr (ci, fl)))) (hc : vwCl[ci]? = some (C, T, N)) (As : List Value) : PreV s H C (ad b) (PreW D ca ad lay mem (.ref (ad b) :: As)) As :=
  ⟨PreW.blind, va_recv w.2.2.2.1 w.1 hc (wd_get hlay), (r_pre w (.ref (ad b) :: As)).2⟩
abbrev rmx (f k : Nat) : Room := { frames := f, cells := 0, slots := 0, locals := k }
variable {y : MethodName} {bytes : ByteArray} {maxL index n f k : Nat} {ret : Option FieldType} {As st : List Value} {mem' : Mm}
theorem r_cVi (X : CallFix p m c cc nL s args TT own) (w : Wd D ca ad lay A H0 s mem H locs) {b ci N : Nat} {C : String} {T : u_T} {fl : List (Option Nat)} (hlay : lay[b]? = some (.inr (.inr (ci, fl)))) (hc : vwCl[ci]? = some (C, T, N)) {r : Int32} (hM : CtI l y bytes maxL ret (rmx f k) D ca ad lay mem (.ref (ad b) :: As) mem' r) (hG : GoodIn TT (wsV own index C y (wsT y bytes maxL ret))) (hd : y.cls = C ∧ y.cls ≠ "java/lang/invoke/MethodHandle" ∧ y.cls ≠ "java/lang/invoke/VarHandle" ∧ (parseMethodDescriptor y.desc).map (fun d => d.parameters.length) = some n) (hR : f + 1 ≤ R.frames ∧ 8 + (maxL + 11) + k ≤ R.locals) (hn : As.length = n) (hsz : ls.size = nL) (hst : st = As.reverse ++ .ref (ad b) :: rest) (hroom : (rest.map fun v => v.category).sum ≤ 8) (hdg : decode cc pc = .ok (.invokevirtual index, 3)) (hf : cells + 0 ≤ R.cells ∧ slots + 0 ≤ R.slots)
    (kk : ∀ (H1 : Heap) (locs1 : List Loc), Wd D ca ad lay A H0 s mem' H1 locs1 → W p l e R s m args below meth c H1 locs1 cells slots Q (F0 m (pc + 3) ls (.int r :: rest))) : W p l e R s m args below meth c H locs cells slots Q (F0 m pc ls st) := by
  subst hst
  refine va_calli (va_runV (As := As) (rest := rest) X hM (cwV n X.2.2.2.2 hG rfl rfl rfl hd hR) (r_recv w hlay hc As) rfl hn hsz rfl (lv_room hroom) hdg hf) w.2.1 (fun q _ h => w.2.2.1.2 q h) (fun q h => w.2.2.1.2 q h) (fun r u t H1 locs1 ht _ hw hB _ _ hS => ?_)
  subst hw
  exact kk H1 locs1 (r_back w ht hB hS)
theorem r_cVv (X : CallFix p m c cc nL s args TT own) (w : Wd D ca ad lay A H0 s mem H locs) {b ci N : Nat} {C : String} {T : u_T} {fl : List (Option Nat)} (hlay : lay[b]? = some (.inr (.inr (ci, fl)))) (hc : vwCl[ci]? = some (C, T, N)) (hM : CtV l y bytes maxL ret (rmx f k) D ca ad lay mem (.ref (ad b) :: As) mem') (hG : GoodIn TT (wsV own index C y (wsT y bytes maxL ret))) (hd : y.cls = C ∧ y.cls ≠ "java/lang/invoke/MethodHandle" ∧ y.cls ≠ "java/lang/invoke/VarHandle" ∧ (parseMethodDescriptor y.desc).map (fun d => d.parameters.length) = some n) (hR : f + 1 ≤ R.frames ∧ 8 + (maxL + 11) + k ≤ R.locals) (hn : As.length = n) (hsz : ls.size = nL) (hst : st = As.reverse ++ .ref (ad b) :: rest) (hroom : (rest.map fun v => v.category).sum ≤ 8) (hdg : decode cc pc = .ok (.invokevirtual index, 3)) (hf : cells + 0 ≤ R.cells ∧ slots + 0 ≤ R.slots)
    (kk : ∀ (H1 : Heap) (locs1 : List Loc), Wd D ca ad lay A H0 s mem' H1 locs1 → W p l e R s m args below meth c H1 locs1 cells slots Q (F0 m (pc + 3) ls rest)) : W p l e R s m args below meth c H locs cells slots Q (F0 m pc ls st) := by
  subst hst
  refine va_callv (va_runV (As := As) (rest := rest) X hM (cwV n X.2.2.2.2 hG rfl rfl rfl hd hR) (r_recv w hlay hc As) rfl hn hsz rfl (lv_room hroom) hdg hf) w.2.1 (fun q _ h => w.2.2.1.2 q h) (fun q h => w.2.2.1.2 q h) (fun u t H1 locs1 ht _ _ hB _ _ hS => ?_)
  exact kk H1 locs1 (r_back w ht hB hS)
theorem r_cVq (X : CallFix p m c cc nL s args TT own) (w : Wd D ca ad lay A H0 s mem H locs) {b ci N : Nat} {C : String} {T : u_T} {fl : List (Option Nat)} (hlay : lay[b]? = some (.inr (.inr (ci, fl)))) (hc : vwCl[ci]? = some (C, T, N)) {r : Option Nat} (hM : CtQ l y bytes maxL ret (rmx f k) D ca ad lay mem (.ref (ad b) :: As) mem' r) (hG : GoodIn TT (wsV own index C y (wsT y bytes maxL ret))) (hd : y.cls = C ∧ y.cls ≠ "java/lang/invoke/MethodHandle" ∧ y.cls ≠ "java/lang/invoke/VarHandle" ∧ (parseMethodDescriptor y.desc).map (fun d => d.parameters.length) = some n) (hR : f + 1 ≤ R.frames ∧ 8 + (maxL + 11) + k ≤ R.locals) (hn : As.length = n) (hsz : ls.size = nL) (hst : st = As.reverse ++ .ref (ad b) :: rest) (hroom : (rest.map fun v => v.category).sum ≤ 8) (hdg : decode cc pc = .ok (.invokevirtual index, 3)) (hf : cells + 0 ≤ R.cells ∧ slots + 0 ≤ R.slots)
    (kk : ∀ (H1 : Heap) (locs1 : List Loc), Wd D ca ad lay A H0 s mem' H1 locs1 → W p l e R s m args below meth c H1 locs1 cells slots Q (F0 m (pc + 3) ls (va_rf (r.map ad) :: rest))) : W p l e R s m args below meth c H locs cells slots Q (F0 m pc ls st) := by
  subst hst
  refine va_callq (va_runV (As := As) (rest := rest) X hM (cwV n X.2.2.2.2 hG rfl rfl rfl hd hR) (r_recv w hlay hc As) rfl hn hsz rfl (lv_room hroom) hdg hf) w.2.1 (fun q _ h => w.2.2.1.2 q h) (fun q h => w.2.2.1.2 q h) (fun r u t H1 locs1 ht _ hw hB _ _ hS => ?_)
  subst hw
  exact kk H1 locs1 (r_back w ht hB hS)
theorem r_cSi (X : CallFix p m c cc nL s args TT own) (w : Wd D ca ad lay A H0 s mem H locs) {r : Int32} (hM : CtI l y bytes maxL ret (rmx f k) D ca ad lay mem As mem' r) (hG : GoodIn TT (va_wsS own index y (wsT y bytes maxL ret))) (hd : y.cls ≠ "java/lang/invoke/MethodHandle" ∧ y.cls ≠ "java/lang/invoke/VarHandle" ∧ (parseMethodDescriptor y.desc).map (fun d => d.parameters.length) = some n) (hR : f + 1 ≤ R.frames ∧ 8 + (maxL + 11) + k ≤ R.locals) (hn : As.length = n) (hsz : ls.size = nL) (hst : st = As.reverse ++ rest) (hroom : (rest.map fun v => v.category).sum ≤ 8) (hdg : decode cc pc = .ok (.invokestatic index, 3)) (hf : cells + 0 ≤ R.cells ∧ slots + 0 ≤ R.slots)
    (kk : ∀ (H1 : Heap) (locs1 : List Loc), Wd D ca ad lay A H0 s mem' H1 locs1 → W p l e R s m args below meth c H1 locs1 cells slots Q (F0 m (pc + 3) ls (.int r :: rest))) : W p l e R s m args below meth c H locs cells slots Q (F0 m pc ls st) := by
  subst hst
  refine va_calli (va_runS (As := As) (rest := rest) X hM (va_cwS n X.2.2.2.2 hG rfl rfl rfl hd hR) (r_pre w As) rfl hn hsz rfl (lv_room hroom) hdg hf) w.2.1 (fun q _ h => w.2.2.1.2 q h) (fun q h => w.2.2.1.2 q h) (fun r u t H1 locs1 ht _ hw hB _ _ hS => ?_)
  subst hw
  exact kk H1 locs1 (r_back w ht hB hS)
theorem r_cSv (X : CallFix p m c cc nL s args TT own) (w : Wd D ca ad lay A H0 s mem H locs) (hM : CtV l y bytes maxL ret (rmx f k) D ca ad lay mem As mem') (hG : GoodIn TT (va_wsS own index y (wsT y bytes maxL ret))) (hd : y.cls ≠ "java/lang/invoke/MethodHandle" ∧ y.cls ≠ "java/lang/invoke/VarHandle" ∧ (parseMethodDescriptor y.desc).map (fun d => d.parameters.length) = some n) (hR : f + 1 ≤ R.frames ∧ 8 + (maxL + 11) + k ≤ R.locals) (hn : As.length = n) (hsz : ls.size = nL) (hst : st = As.reverse ++ rest) (hroom : (rest.map fun v => v.category).sum ≤ 8) (hdg : decode cc pc = .ok (.invokestatic index, 3)) (hf : cells + 0 ≤ R.cells ∧ slots + 0 ≤ R.slots)
    (kk : ∀ (H1 : Heap) (locs1 : List Loc), Wd D ca ad lay A H0 s mem' H1 locs1 → W p l e R s m args below meth c H1 locs1 cells slots Q (F0 m (pc + 3) ls rest)) : W p l e R s m args below meth c H locs cells slots Q (F0 m pc ls st) := by
  subst hst
  refine va_callv (va_runS (As := As) (rest := rest) X hM (va_cwS n X.2.2.2.2 hG rfl rfl rfl hd hR) (r_pre w As) rfl hn hsz rfl (lv_room hroom) hdg hf) w.2.1 (fun q _ h => w.2.2.1.2 q h) (fun q h => w.2.2.1.2 q h) (fun u t H1 locs1 ht _ _ hB _ _ hS => ?_)
  exact kk H1 locs1 (r_back w ht hB hS)
theorem r_cNi (X : CallFix p m c cc nL s args TT own) (w : Wd D ca ad lay A H0 s mem H locs) {host : String} {r : Int32} (hM : CtI l y bytes maxL ret (rmx f k) D ca ad lay mem As mem' r) (hG : Cond.code y bytes maxL ret ∈ TT ∧ Cond.static y ∈ TT ∧ Cond.initialized y.cls ∈ TT) (hN : va_Nw (.methodLinkNest own index y host) s) (hd : y.cls ≠ "java/lang/invoke/MethodHandle" ∧ y.cls ≠ "java/lang/invoke/VarHandle" ∧ (parseMethodDescriptor y.desc).map (fun d => d.parameters.length) = some n) (hR : f + 1 ≤ R.frames ∧ 8 + (maxL + 11) + k ≤ R.locals) (hn : As.length = n) (hsz : ls.size = nL) (hst : st = As.reverse ++ rest) (hroom : (rest.map fun v => v.category).sum ≤ 8) (hdg : decode cc pc = .ok (.invokestatic index, 3)) (hf : cells + 0 ≤ R.cells ∧ slots + 0 ≤ R.slots)
    (kk : ∀ (H1 : Heap) (locs1 : List Loc), Wd D ca ad lay A H0 s mem' H1 locs1 → W p l e R s m args below meth c H1 locs1 cells slots Q (F0 m (pc + 3) ls (.int r :: rest))) : W p l e R s m args below meth c H locs cells slots Q (F0 m pc ls st) := by
  subst hst
  refine va_calli (va_runSN (As := As) (rest := rest) X hM ⟨va_cnB n X.2.2.2.2 (gT hG.1) rfl rfl rfl hN (X.2.2.2.2 _ hG.2.2) hd hR, X.2.2.2.2 _ hG.2.1, trivial⟩ (r_pre w As) rfl hn hsz rfl (lv_room hroom) hdg hf) w.2.1 (fun q _ h => w.2.2.1.2 q h) (fun q h => w.2.2.1.2 q h) (fun r u t H1 locs1 ht _ hw hB _ _ hS => ?_)
  subst hw
  exact kk H1 locs1 (r_back w ht hB hS)
end RW
/-- what a method's end owes: an int -/
def EndI (D : va_G) (ca : Nat → ClassId) (ad : Nat → Nat) (lay : List Kd) (mem' : Mm) (r : Int32) (below : List Frame) (args : Array Value) (s : State) : State → Prop := MQ below (va_Qi (fun (rr : Int32) (_ : Unit) => rr = r) (fun _ t => va_P D vwCl (wd ca ad mem' lay) t.heap) (AA ad lay.length)) args s 0 0 (AA ad lay.length)
def EndV (D : va_G) (ca : Nat → ClassId) (ad : Nat → Nat) (lay : List Kd) (mem' : Mm) (below : List Frame) (args : Array Value) (s : State) : State → Prop := MQ below (va_Qv (fun (_ : Unit) => True) (fun _ t => va_P D vwCl (wd ca ad mem' lay) t.heap) (AA ad lay.length)) args s 0 0 (AA ad lay.length)
def EndQ (D : va_G) (ca : Nat → ClassId) (ad : Nat → Nat) (lay : List Kd) (mem' : Mm) (r : Option Nat) (below : List Frame) (args : Array Value) (s : State) : State → Prop := MQ below (va_Qq (fun rr (_ : Unit) => rr = r.map ad) (fun _ t => va_P D vwCl (wd ca ad mem' lay) t.heap) (AA ad lay.length)) args s 0 0 (AA ad lay.length)
section RE
variable {p : Program} {l : Launch} {e : Env} {R : Room} {s : State} {m : MethodId} {args : Array Value} {below : List Frame} {meth : Method} {c : Code} {H : Heap} {locs : List Loc}
variable {cc : ByteArray} {pc nL : Nat} {ls : Array Slot} {D : va_G} {Ts : List Cond} {own : String}
variable {ca : Nat → ClassId} {ad : Nat → Nat} {lay : List Kd} {mem : Mm}
/-- what a method's walk knows of its method: its return type, no lock -/
abbrev Mt (meth : Method) (ret : Option FieldType) : Prop := meth.sig.returnType = ret ∧ meth.locks = false
theorem r_iret (X : CallFix p m c cc nL s args Ts own) (M : Mt meth (some .int)) (w : Wd D ca ad lay (AA ad lay.length) s.heap s mem H locs) {r : Int32} (hdg : decode cc pc = .ok (.ireturn, 1)) : W p l e R s m args below meth c H locs 0 0 (EndI D ca ad lay mem r below args s) (F0 m pc ls [.int r]) :=
  W.iret (v := r) X.1 X.2.1 M.1 (fun t ht hW => ⟨⟨r, (), rfl, rfl, by subst ht; exact w.1⟩, w.2.1.F ht⟩) w.2.1.2.2 hdg M.2
theorem r_zret (X : CallFix p m c cc nL s args Ts own) (M : Mt meth (some .boolean)) (w : Wd D ca ad lay (AA ad lay.length) s.heap s mem H locs) {r : Int32} (hz : r &&& 1 = r) (hdg : decode cc pc = .ok (.ireturn, 1)) : W p l e R s m args below meth c H locs 0 0 (EndI D ca ad lay mem r below args s) (F0 m pc ls [.int r]) :=
  W.zret (v := r) X.1 X.2.1 M.1 (by simp only [narrow]; rw [hz]) (fun t ht hW => ⟨⟨r, (), rfl, rfl, by subst ht; exact w.1⟩, w.2.1.F ht⟩) w.2.1.2.2 hdg M.2
theorem r_vret (X : CallFix p m c cc nL s args Ts own) (M : Mt meth none) (w : Wd D ca ad lay (AA ad lay.length) s.heap s mem H locs) (hdg : decode cc pc = .ok (.return_, 1)) : W p l e R s m args below meth c H locs 0 0 (EndV D ca ad lay mem below args s) (F0 m pc ls []) :=
  W.vret X.1 X.2.1 M.1 (fun t ht hW => ⟨⟨(), rfl, trivial, by subst ht; exact w.1⟩, w.2.1.F ht⟩) w.2.1.2.2 hdg M.2
theorem r_aret {C : String} (X : CallFix p m c cc nL s args Ts own) (M : Mt meth (some (.object C))) (w : Wd D ca ad lay (AA ad lay.length) s.heap s mem H locs) {r : Option Nat} (hdg : decode cc pc = .ok (.areturn, 1)) : W p l e R s m args below meth c H locs 0 0 (EndQ D ca ad lay mem r below args s) (F0 m pc ls [va_rf (r.map ad)]) :=
  W.aret (v := va_rf (r.map ad)) X.1 X.2.1 M.1 (Or.inl ⟨_, rfl⟩) (va_rf_or _) (fun t ht hW => ⟨⟨_, (), rfl, rfl, by subst ht; exact w.1⟩, w.2.1.F ht⟩) w.2.1.2.2 hdg M.2
/-- a method's start -/
theorem CtI.of {y : MethodName} {rm : Room} {maxL : Nat} {ret : Option FieldType} {av : List Value} {mem' : Mm} {r : Int32} (hy : plainName y.cls = true) (hle : (lg_sl av).length ≤ maxL)
    (body : ∀ p e s m args below meth c H locs ls, CallFix p m c cc maxL s args TT y.cls → Mt meth ret → Wd D ca ad lay (AA ad lay.length) s.heap s mem H locs → lv_has ls maxL (lv_args 0 av) → W p l e rm s m args below meth c H locs 0 0 (EndI D ca ad lay mem' r below args s) (F0 m 0 ls [])) : CtI l y cc maxL ret rm D ca ad lay mem av mem' r := by
  refine Met.ofW (cc := cc) (maxL := maxL) (ret := ret) hy rfl ?_
  intro p e s m args below meth c s₁ B hml hv
  obtain ⟨rfl, hP, hK, hD⟩ := hv
  have hl := lv_entry av (n := maxL) hle
  rw [lg_entry_eq]
  exact body p e s m _ below meth c s.heap [] _ ⟨B.exec, B.bytes, hml, findClass_of_methodNamed B.named, fun w h => atoms_spec (ws := wsT y cc maxL ret) B.pre w (List.mem_cons_of_mem _ h)⟩ ⟨B.returns, B.notSynchronized⟩ ⟨hP, va_S.rf, ⟨hD, fun _ h => h⟩, hK⟩ hl
theorem CtV.of {y : MethodName} {rm : Room} {maxL : Nat} {ret : Option FieldType} {av : List Value} {mem' : Mm} (hy : plainName y.cls = true) (hle : (lg_sl av).length ≤ maxL)
    (body : ∀ p e s m args below meth c H locs ls, CallFix p m c cc maxL s args TT y.cls → Mt meth ret → Wd D ca ad lay (AA ad lay.length) s.heap s mem H locs → lv_has ls maxL (lv_args 0 av) → W p l e rm s m args below meth c H locs 0 0 (EndV D ca ad lay mem' below args s) (F0 m 0 ls [])) : CtV l y cc maxL ret rm D ca ad lay mem av mem' := by
  refine Met.ofW (cc := cc) (maxL := maxL) (ret := ret) hy rfl ?_
  intro p e s m args below meth c s₁ B hml hv
  obtain ⟨rfl, hP, hK, hD⟩ := hv
  have hl := lv_entry av (n := maxL) hle
  rw [lg_entry_eq]
  exact body p e s m _ below meth c s.heap [] _ ⟨B.exec, B.bytes, hml, findClass_of_methodNamed B.named, fun w h => atoms_spec (ws := wsT y cc maxL ret) B.pre w (List.mem_cons_of_mem _ h)⟩ ⟨B.returns, B.notSynchronized⟩ ⟨hP, va_S.rf, ⟨hD, fun _ h => h⟩, hK⟩ hl
theorem CtQ.of {y : MethodName} {rm : Room} {maxL : Nat} {ret : Option FieldType} {av : List Value} {mem' : Mm} {r : Option Nat} (hy : plainName y.cls = true) (hle : (lg_sl av).length ≤ maxL)
    (body : ∀ p e s m args below meth c H locs ls, CallFix p m c cc maxL s args TT y.cls → Mt meth ret → Wd D ca ad lay (AA ad lay.length) s.heap s mem H locs → lv_has ls maxL (lv_args 0 av) → W p l e rm s m args below meth c H locs 0 0 (EndQ D ca ad lay mem' r below args s) (F0 m 0 ls [])) : CtQ l y cc maxL ret rm D ca ad lay mem av mem' r := by
  refine Met.ofW (cc := cc) (maxL := maxL) (ret := ret) hy rfl ?_
  intro p e s m args below meth c s₁ B hml hv
  obtain ⟨rfl, hP, hK, hD⟩ := hv
  have hl := lv_entry av (n := maxL) hle
  rw [lg_entry_eq]
  exact body p e s m _ below meth c s.heap [] _ ⟨B.exec, B.bytes, hml, findClass_of_methodNamed B.named, fun w h => atoms_spec (ws := wsT y cc maxL ret) B.pre w (List.mem_cons_of_mem _ h)⟩ ⟨B.returns, B.notSynchronized⟩ ⟨hP, va_S.rf, ⟨hD, fun _ h => h⟩, hK⟩ hl
end RE
/-! pure words: guards -/
def gd {α : Type} (i : Int32) (n : Nat) (k : Option α) : Option α := if i < 0 ∨ n ≤ i.toNatClampNeg then none else k
theorem gd_some {α : Type} {i : Int32} {n : Nat} {k : Option α} {o : α} (h : gd i n k = some o) : vp_in i n ∧ k = some o := by
  unfold gd at h
  by_cases hc : i < 0 ∨ n ≤ i.toNatClampNeg
  · rw [if_pos hc] at h; cases h
  · rw [if_neg hc] at h; exact ⟨hc, h⟩
def nz {α : Type} (d : Int32) (k : Option α) : Option α := if d = 0 then none else k
theorem nz_some {α : Type} {d : Int32} {k : Option α} {o : α} (h : nz d k = some o) : ¬ d = 0 ∧ k = some o := by
  unfold nz at h
  by_cases hc : d = 0
  · rw [if_pos hc] at h; cases h
  · rw [if_neg hc] at h; exact ⟨hc, h⟩
def gz {α : Type} (d : Int32) (k : Option α) : Option α := if d &&& 1 = d then k else none
theorem gz_some {α : Type} {d : Int32} {k : Option α} {o : α} (h : gz d k = some o) : d &&& 1 = d ∧ k = some o := by
  unfold gz at h
  by_cases hc : d &&& 1 = d
  · rw [if_pos hc] at h; exact ⟨hc, h⟩
  · rw [if_neg hc] at h; cases h
def wk {α : Type} (m : Mm) (b i : Nat) (v : Int32) (k : Mm → Option α) : Option α := k (wr m b i v)
theorem wk_some {α : Type} {m : Mm} {b i : Nat} {v : Int32} {k : Mm → Option α} {o : α} (h : wk m b i v k = some o) : ∃ m1, wr m b i v = m1 ∧ k m1 = some o := ⟨_, rfl, h⟩
def bd {α β : Type} (x : Option α) (k : α → Option β) : Option β := x.bind k
theorem bd_some {α β : Type} {x : Option α} {k : α → Option β} {o : β} (h : bd x k = some o) : ∃ a, x = some a ∧ k a = some o := Option.bind_eq_some_iff.mp h
def bw {α β : Type} (x : Option (Mm × α)) (k : Mm → α → Option β) : Option β := x.bind (fun q => k q.1 q.2)
theorem bw_some {α β : Type} {x : Option (Mm × α)} {k : Mm → α → Option β} {o : β} (h : bw x k = some o) : ∃ m1 a, x = some (m1, a) ∧ k m1 a = some o := by
  obtain ⟨⟨m1, a⟩, h1, h2⟩ := Option.bind_eq_some_iff.mp h
  exact ⟨m1, a, h1, h2⟩
def lk {α : Type} (e : Int32) (k : Int32 → Option α) : Option α := k e
theorem lk_some {α : Type} {e : Int32} {k : Int32 → Option α} {o : α} (h : lk e k = some o) : ∃ x, e = x ∧ k x = some o := ⟨_, rfl, h⟩
theorem lv_name {p : Program} {l : Launch} {e : Env} {R : Room} {s : State} {m : MethodId} {args : Array Value} {below : List Frame} {meth : Method} {c : Code} {H : Heap} {locs : List Loc} {cells slots : Nat} {Q : State → Prop} {pc : Nat} {ls : Array Slot} {rest : List Value} {x y : Int32} (h : x = y) (k : W p l e R s m args below meth c H locs cells slots Q (F0 m pc ls (.int y :: rest))) : W p l e R s m args below meth c H locs cells slots Q (F0 m pc ls (.int x :: rest)) := by rw [h]; exact k
theorem sw_out {x : Int32} (lo hi : Int) (ks : List Int32) (hks : ∀ z : Int, lo ≤ z → z ≤ hi → ∃ k ∈ ks, k.toInt = z) (h : ∀ k ∈ ks, ¬ x = k) : x.toInt < lo ∨ hi < x.toInt := by
  by_cases h1 : x.toInt < lo
  · exact Or.inl h1
  · by_cases h2 : hi < x.toInt
    · exact Or.inr h2
    · obtain ⟨k, hk, e⟩ := hks x.toInt (by omega) (by omega)
      exact absurd (Int32.toInt_inj.mp e.symm) (h k hk)
