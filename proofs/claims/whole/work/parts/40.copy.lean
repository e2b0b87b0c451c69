/-! Arrays.copyOf to a longer array; Fences.noteAddress -/
theorem dj1 {q : Nat × va_E} : va_D (fun _ => True) [q] := by
  refine ⟨fun i j x y hi hj _ => ?_, fun _ _ _ => trivial⟩
  have h1 := (List.getElem?_eq_some_iff.mp hi).1
  have h2 := (List.getElem?_eq_some_iff.mp hj).1
  simp only [List.length_cons, List.length_nil] at h1 h2
  omega
set_option maxRecDepth 100000 in
set_option maxHeartbeats 4000000 in
theorem cp_k (l : Launch) (D : va_G) (ca : Nat → ClassId) (a0 n sz : Nat) (f : Nat → Int32) (N : Int32) (N' : Nat) (hN0 : ¬ N < 0) (hN : N.toNatClampNeg = N') (hlt : n < N') (hb9 : N' ≤ 1000) : Met l yJ7_copyOf_59c91 (wsT yJ7_copyOf_59c91 cJ7_copyOf_59c91 3 (some (.array .int))) ({ frames := 1, cells := 1, slots := N', locals := 24 }) (va_Pc [.ref a0, .int N] (fun U => U.heap.size = sz ∧ va_P D vwCl [(a0, .inl (ca 0, n, .inl f))] U.heap ∧ Kx D ca U)) (va_Qr (fun (_ : Unit) => True) (fun _ a t => sz ≤ a ∧ va_P D vwCl [(a0, .inl (ca 0, n, .inl f)), (a, .inl (ca 0, N', .inl (va_cpy f (fun _ => 0) 0 0 n)))] t.heap) (va_A [(a0, .inl (ca 0, n, .inl f))] sz)) 1 N' (va_A [(a0, .inl (ca 0, n, .inl f))] sz) := by
  refine Met.ofW (cc := cJ7_copyOf_59c91) (maxL := 3) (ret := some (.array .int)) (by decide) rfl ?_
  intro p e s m args below meth c s₁ B hml hv
  obtain ⟨rfl, hsz, hP, hK⟩ := hv
  subst hsz
  have X : CallFix p m c cJ7_copyOf_59c91 3 s _ TT RJ7 := ⟨B.exec, B.bytes, hml, findClass_of_methodNamed B.named, fun w h => atoms_spec (ws := wsT yJ7_copyOf_59c91 cJ7_copyOf_59c91 3 (some (.array .int))) B.pre w (List.mem_cons_of_mem _ h)⟩
  have hr := B.returns
  have hlocks := B.notSynchronized
  have hD := (dj1 (q := (a0, .inl (ca 0, n, .inl f)))).self (sz := s.heap.size)
  have hA : ∀ q : Nat, s.heap.size ≤ q → va_A [((a0, .inl (ca 0, n, .inl f)) : Nat × va_E)] s.heap.size q := fun q h => Or.inr h
  have hS : va_S (va_A [((a0, .inl (ca 0, n, .inl f)) : Nat × va_E)] s.heap.size) s.heap s.heap [] := va_S.rf
  have hl := lv_entry [.ref a0, .int N] (n := 3) (Nat.le_of_ble_eq_true rfl)
  rw [lg_entry_eq]
  generalize (lg_sl ([.ref a0, .int N]) ++ List.replicate (3 - (lg_sl ([.ref a0, .int N])).length) Slot.unset).toArray = ls at hl ⊢
  have hl : lv_has ls 3 [(0, .ref a0), (1, .int N)] := hl
  have hle : nI n < N := by
    obtain ⟨k, hk1, hk2⟩ := nI_of hN0
    rw [hk2, nI_clamp hk1] at hN
    rw [hk2]
    exact nI_lt (by omega) hk1
  refine lv_iload_n X.1 X.2.1 dJ7_copyOf_59c91_0 rfl (lv_at hl 1 rfl) ?_
  refine lv_aload_n X.1 X.2.1 dJ7_copyOf_59c91_1 rfl (lv_at hl 0 rfl) ?_
  refine va_alen X.1 X.2.1 hK.1 hP 0 0 rfl (ty := .int) rfl (v := nI n) rfl dJ7_copyOf_59c91_2 ?_
  refine lv_icmp_ne (tgt := 14) X.1 X.2.1 dJ7_copyOf_59c91_3 (by decide) (fun _ => ?_) (fun c1 => absurd hle (by rw [c1]; exact fun z => Int32.lt_irrefl z))
  refine lv_iload_n X.1 X.2.1 dJ7_copyOf_59c91_14 rfl (lv_at hl 1 rfl) ?_
  refine va_newa (atype := .int) (ty := .int) (a0 := (N', .inl (fun _ => 0))) X.1 X.2.1 (X.2.2.2.2 _ tw_119) rfl hK.1 hP hD hS hA (fun _ => rfl) hN0 hN (by simp only [componentBytes]; omega) (Nat.le_of_ble_eq_true rfl) (by show 0 + N' ≤ N'; omega) dJ7_copyOf_59c91_15 (fun q cA H1 hK1 hP hD hS => ?_)
  have e1 := (hK1.2 4 (cA, .int) rfl).2
  have e2 := (hK1.2 0 (ca 0, .int) rfl).2
  have e3 : ca 0 = cA := Option.some.inj (e2.symm.trans e1)
  subst e3
  have hP : va_P D vwCl [(a0, .inl (ca 0, n, .inl f)), (q, .inl (ca 0, N', .inl (fun _ => 0)))] H1 := hP
  have hD : va_D (va_A [((a0, .inl (ca 0, n, .inl f)) : Nat × va_E)] s.heap.size) [(a0, .inl (ca 0, n, .inl f)), (q, .inl (ca 0, N', .inl (fun _ => 0)))] := hD
  have hq : s.heap.size ≤ q := by
    rcases hD.2 1 _ rfl with ⟨k, e, h⟩ | h
    · have hk := (List.getElem?_eq_some_iff.mp h).1
      simp only [List.length_cons, List.length_nil] at hk
      rw [show k = 0 by omega] at h
      simp only [List.getElem?_cons_zero, Option.some.injEq, Prod.mk.injEq] at h
      exact absurd (hD.1 0 1 _ _ rfl rfl h.1) (by decide)
    · exact h
  refine lv_astore_n (lv' := [(2, .ref q), (0, .ref a0), (1, .int N)]) X.1 X.2.1 dJ7_copyOf_59c91_17 rfl hl (by decide) rfl (fun ls hl => ?_)
  refine lv_aload_n X.1 X.2.1 dJ7_copyOf_59c91_18 rfl (lv_at hl 1 rfl) ?_
  refine lv_iconst (v := (0 : Int32)) X.1 X.2.1 dJ7_copyOf_59c91_19 (by decide) ?_
  refine lv_aload_n X.1 X.2.1 dJ7_copyOf_59c91_20 rfl (lv_at hl 0 rfl) ?_
  refine lv_iconst (v := (0 : Int32)) X.1 X.2.1 dJ7_copyOf_59c91_21 (by decide) ?_
  refine lv_aload_n X.1 X.2.1 dJ7_copyOf_59c91_22 rfl (lv_at hl 1 rfl) ?_
  refine va_alen X.1 X.2.1 hK.1 hP 0 0 rfl (ty := .int) rfl (v := nI n) rfl dJ7_copyOf_59c91_23 ?_
  refine lv_iload_n X.1 X.2.1 dJ7_copyOf_59c91_24 rfl (lv_at hl 2 rfl) ?_
  refine va_mmin X.1 X.2.1 (X.2.2.1.trans hl.1.symm) X.2.2.2.1 (X.2.2.2.2 _ tw_625) (X.2.2.2.2 _ mmin_1) (X.2.2.2.2 _ mmin_2) (X.2.2.2.2 _ mmin_3) (Nat.le_of_ble_eq_true rfl) (Nat.le_of_ble_eq_true rfl) (Nat.le_of_ble_eq_true rfl) (by show 0 + N' ≤ N'; omega) dJ7_copyOf_59c91_25 ?_
  refine lv_name (y := nI n) (if_neg (fun h => Int32.lt_irrefl (Int32.lt_trans h hle))) ?_
  have hcl : (nI n).toNatClampNeg = n := nI_clamp (by omega)
  refine va_copyi X.1 X.2.1 (X.2.2.1.trans hl.1.symm) X.2.2.2.1 (X.2.2.2.2 _ tw_628) (X.2.2.2.2 _ tw_630) (X.2.2.2.2 _ tw_629) (X.2.2.2.2 _ tw_77) hK.1 hP hD hS 0 1 0 0 (ty := .int) rfl rfl rfl rfl rfl (by decide) (by decide) (nI_pos (by omega)) (by rw [hcl]; show 0 + n ≤ n; omega) (by rw [hcl]; show 0 + n ≤ N'; omega) (fun _ _ => rfl) (Nat.le_of_ble_eq_true rfl) (Nat.le_of_ble_eq_true rfl) dJ7_copyOf_59c91_28 (fun H1 locs hP hD hS => ?_)
  have hP : va_P D vwCl [(a0, .inl (ca 0, n, .inl f)), (q, .inl (ca 0, N', .inl (va_cpy f (fun _ => 0) 0 0 (nI n).toNatClampNeg)))] H1 := hP
  rw [hcl] at hP
  refine lv_aload_n X.1 X.2.1 dJ7_copyOf_59c91_31 rfl (lv_at hl 0 rfl) ?_
  refine W.widen (k := 1) (n := N') (by omega) (by omega) ?_
  exact W.aret (v := .ref q) X.1 X.2.1 hr (Or.inr ⟨_, rfl⟩) (Or.inr ⟨_, rfl⟩) (fun t ht hW => ⟨⟨(), q, rfl, trivial, hq, by subst ht; exact hP⟩, hS.F ht⟩) hS.2.2 dJ7_copyOf_59c91_32
/-! Fences.noteAddress -/
def AF (ad : Nat → Nat) (sz : Nat) : Nat → Prop := fun q => AA ad 46 q ∨ sz ≤ q
def Ag (ad u : Nat → Nat) (sz : Nat) : Prop := (∀ b, b ≠ 42 → b ≠ 43 → u b = ad b) ∧ ∀ b, b < 46 → AF ad sz (u b)
theorem Ag.rf {ad : Nat → Nat} {sz : Nat} : Ag ad ad sz := ⟨fun _ _ _ => rfl, fun b h => Or.inl ⟨b, h, rfl⟩⟩
def EndN (D : va_G) (ca : Nat → ClassId) (ad0 : Nat → Nat) (cap' : Nat) (mem' : Mm) (below : List Frame) (args : Array Value) (s : State) : State → Prop := MQ below (va_Qv (fun u => Ag ad0 u s.heap.size) (fun u t => va_P D vwCl (wd ca u mem' (layC cap')) t.heap ∧ Dj u 46) (AF ad0 s.heap.size)) args s 2 1024 (AF ad0 s.heap.size)
theorem r_vretN {p : Program} {l : Launch} {e : Env} {R : Room} {s : State} {m : MethodId} {args : Array Value} {below : List Frame} {meth : Method} {c : Code} {H : Heap} {locs : List Loc} {cc : ByteArray} {pc nL cells slots cap : Nat} {ls : Array Slot} {D : va_G} {own : String} {ca : Nat → ClassId} {ad0 ad : Nat → Nat} {mem : Mm} (X : CallFix p m c cc nL s args TT own) (M : Mt meth none) (hc : cells ≤ 2) (hs : slots ≤ 1024) (hag : Ag ad0 ad s.heap.size) (w : Wd D ca ad (layC cap) (AF ad0 s.heap.size) s.heap s mem H locs) (hdg : decode cc pc = .ok (.return_, 1)) : W p l e R s m args below meth c H locs cells slots (EndN D ca ad0 cap mem below args s) (F0 m pc ls []) := by
  refine W.widen (k := 2) (n := 1024) hc hs ?_
  exact W.vret X.1 X.2.1 M.1 (fun t ht hW => ⟨⟨ad, rfl, hag, by subst ht; exact ⟨w.1, w.2.2.1.1⟩⟩, w.2.1.F ht⟩) w.2.1.2.2 hdg M.2
/-- the memory with the two arrays grown -/
def grm (cap : Nat) (mem : Mm) : Mm := fun b i => if b = 42 ∨ b = 43 then (if i < cap then mem b i else 0) else mem b i
theorem grm_ne {cap : Nat} {mem : Mm} {b : Nat} (h1 : b ≠ 42) (h2 : b ≠ 43) : grm cap mem b = mem b := by
  funext i
  simp [grm, h1, h2]
theorem grm_in {cap : Nat} {mem : Mm} {b : Nat} (h1 : b = 42 ∨ b = 43) : grm cap mem b = va_cpy (mem b) (fun _ => 0) 0 0 cap := by
  funext i
  simp only [grm, if_pos h1, va_cpy, Nat.zero_le, true_and, Nat.zero_add, Nat.sub_zero]
def ngr {α : Type} (cap : Nat) (mem : Mm) (k : Nat → Mm → Option α) : Option α := if 0 < cap ∧ cap ≤ 256 then k (2 * cap) (grm cap mem) else none
theorem ngr_some {α : Type} {cap : Nat} {mem : Mm} {k : Nat → Mm → Option α} {o : α} (h : ngr cap mem k = some o) : (0 < cap ∧ cap ≤ 256) ∧ k (2 * cap) (grm cap mem) = some o := by
  unfold ngr at h
  by_cases hc : 0 < cap ∧ cap ≤ 256
  · rw [if_pos hc] at h; exact ⟨hc, h⟩
  · rw [if_neg hc] at h; cases h
/-- a call that wrote one cell of the world as it was, and made new ones -/
theorem p_keep {D : va_G} {A : Nat → Prop} {ws : va_W} {H H1 : Heap} {k : Nat} {q : Nat × va_E} (hP : va_P D vwCl ws H) (hD : va_D A ws) (hk : ws[k]? = some q) (hh : ∀ z : Nat, z < H.size → ¬ va_A [q] H.size z → H1[z]? = H[z]?) (h1 : va_at D vwCl q H1) : va_P D vwCl ws H1 := by
  intro j x hj
  by_cases hjk : j = k
  · subst hjk
    rw [hk] at hj
    cases hj
    exact h1
  · refine (hP j x hj).kept (hh x.1 (hP j x hj).lt (fun h => ?_))
    rcases h with ⟨i, e, h⟩ | h
    · have hi := (List.getElem?_eq_some_iff.mp h).1
      simp only [List.length_cons, List.length_nil] at hi
      rw [show i = 0 by omega] at h
      simp only [List.getElem?_cons_zero, Option.some.injEq] at h
      exact hjk (hD.1 j k x q hj hk (by rw [h]))
    · exact absurd (hP j x hj).lt (by omega)
theorem d_push {D : va_G} {A : Nat → Prop} {ws : va_W} {H : Heap} {a : Nat} {e : va_E} (hP : va_P D vwCl ws H) (hD : va_D A ws) (ha : H.size ≤ a) (hA : A a) : va_D A (ws ++ [(a, e)]) := by
  refine hD.app ⟨dj1.1, fun k q hk => ?_⟩ (fun i j x y hx hy hxy => ?_)
  · have hi := (List.getElem?_eq_some_iff.mp hk).1
    simp only [List.length_cons, List.length_nil] at hi
    rw [show k = 0 by omega] at hk
    cases hk
    exact hA
  · have hi := (List.getElem?_eq_some_iff.mp hy).1
    simp only [List.length_cons, List.length_nil] at hi
    rw [show j = 0 by omega] at hy
    cases hy
    have := (hP i x hx).lt
    simp only at hxy
    omega
/-- Arrays.copyOf, called: a new cell behind the world -/
theorem r_copy {p : Program} {l : Launch} {e : Env} {R : Room} {s : State} {m : MethodId} {args : Array Value} {below : List Frame} {meth : Method} {c : Code} {H H0 : Heap} {locs : List Loc} {cells slots : Nat} {Q : State → Prop} {cc : ByteArray} {pc nL index : Nat} {ls : Array Slot} {rest : List Value} {D : va_G} {A : Nat → Prop} {own : String} {ca : Nat → ClassId} {ws : va_W} (X : CallFix p m c cc nL s args TT own) (hP : va_P D vwCl ws H) (hD : va_D A ws) (hS : va_S A H0 H locs) (hA : ∀ q, H0.size ≤ q → A q) (hK : Kx D ca s) (k : Nat) {a0 n : Nat} {f : Nat → Int32} (hk : ws[k]? = some (a0, .inl (ca 0, n, .inl f))) {N : Int32} (N' : Nat) (hN0 : ¬ N < 0) (hN : N.toNatClampNeg = N') (hlt : n < N') (hb9 : N' ≤ 1000) (hG : GoodIn TT (va_wsS own index yJ7_copyOf_59c91 (wsT yJ7_copyOf_59c91 cJ7_copyOf_59c91 3 (some (.array .int))))) (hR : 1 + 1 ≤ R.frames ∧ 8 + (3 + 11) + 24 ≤ R.locals) (hsz : ls.size = nL) (hroom : (rest.map fun v => v.category).sum ≤ 8) (hdg : decode cc pc = .ok (.invokestatic index, 3)) (hf : cells + 1 ≤ R.cells ∧ slots + N' ≤ R.slots)
    (kk : ∀ (q : Nat) (H1 : Heap) (locs1 : List Loc), H0.size ≤ q → va_P D vwCl (ws ++ [(q, .inl (ca 0, N', .inl (va_cpy f (fun _ => 0) 0 0 n)))]) H1 → va_D A (ws ++ [(q, .inl (ca 0, N', .inl (va_cpy f (fun _ => 0) 0 0 n)))]) → va_S A H0 H1 locs1 → W p l e R s m args below meth c H1 locs1 (cells + 1) (slots + N') Q (F0 m (pc + 3) ls (.ref q :: rest))) : W p l e R s m args below meth c H locs cells slots Q (F0 m pc ls (.int N :: .ref a0 :: rest)) := by
  have hPk : va_P D vwCl [((a0, .inl (ca 0, n, .inl f)) : Nat × va_E)] H := by
    intro j q hq
    have hi := (List.getElem?_eq_some_iff.mp hq).1
    simp only [List.length_cons, List.length_nil] at hi
    rw [show j = 0 by omega] at hq
    cases hq
    exact hP k _ hk
  have hFc : ∀ z, va_A [((a0, .inl (ca 0, n, .inl f)) : Nat × va_E)] H.size z → A z := fun z h => by
    rcases h with ⟨i, e, h⟩ | h
    · have hi := (List.getElem?_eq_some_iff.mp h).1
      simp only [List.length_cons, List.length_nil] at hi
      rw [show i = 0 by omega] at h
      simp only [List.getElem?_cons_zero, Option.some.injEq, Prod.mk.injEq] at h
      rw [← h.1]
      exact hD.2 k _ hk
    · exact hA z (Nat.le_trans hS.1 h)
  refine va_callr (va_runS (As := [.ref a0, .int N]) (rest := rest) X (cp_k l D ca a0 n H.size f N N' hN0 hN hlt hb9) (va_cwS 2 X.2.2.2.2 hG rfl rfl rfl (by decide +kernel) hR) ⟨fun a U g mk q => ?_, fun U hU hW => ⟨rfl, by rw [hU], by rw [hU]; exact hPk, Kx.warm hW hK⟩⟩ rfl rfl hsz rfl (lv_room hroom) hdg hf) hS (fun q _ h => hFc q h) hFc (fun u a t H1 locs1 ht _ _ hB _ hk1 hS1 => ?_)
  · obtain ⟨q0, q1, q2, q3⟩ := q
    exact ⟨q0, q1, q2, Kx.same (s := U) rfl q3⟩
  · subst ht
    have hP1 := p_keep hP hD hk hk1 (hB.2 0 _ rfl)
    refine kk a t.heap locs1 (Nat.le_trans hS.1 hB.1) (hP1.app (fun j q hq => ?_)) (d_push hP hD hB.1 (hA a (Nat.le_trans hS.1 hB.1))) hS1
    have hi := (List.getElem?_eq_some_iff.mp hq).1
    simp only [List.length_cons, List.length_nil] at hi
    rw [show j = 0 by omega] at hq
    cases hq
    exact hB.2 1 _ rfl
