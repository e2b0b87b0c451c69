/-! THE CONSTRUCTORS, by program (wip/whole/ctor.py) -/
theorem map_fm {α β : Type} (f : α → Option β) : ∀ (l : List α) (r : List β), l.map f = r.map some → l.filterMap f = r
  | [], [], _ => rfl
  | [], _ :: _, h => by cases h
  | _ :: _, [], h => by cases h
  | a :: l, b :: r, h => by
    simp only [List.map_cons, List.cons.injEq] at h
    rw [List.filterMap_cons, h.1]
    simp only
    rw [map_fm f l r h.2]
theorem n_vret2 {p : Program} {l : Launch} {e : Env} {R : Room} {s : State} {m : MethodId} {args : Array Value} {below : List Frame} {meth : Method} {c : Code} {H : Heap} {locs : List Loc} {cc : ByteArray} {pc nL : Nat} {ls : Array Slot} {D : va_G} {own : String} {ca : Nat → ClassId} {ws : va_W} {mc ms h0 : Nat} {pre : va_W} {px : (Nat → Nat) → Prop} {post : (Nat → Nat) → va_W} (X : CallFix p m c cc nL s args TT own) (M : Mt meth none) (w : Wn D ca (va_A pre s.heap.size) s.heap s ws H locs) (u : Nat → Nat) (hx : px u) (is : List Nat) (h2 : va_nd is = true) (h3 : is.map (fun i => ws[i]?) = (post u).map some) (hdg : decode cc pc = .ok (.return_, 1)) : W p l e R s m args below meth c H locs mc ms (MQ below (va_Qv px (fun u t => va_P D vwCl (post u) t.heap ∧ va_D (va_A pre s.heap.size) (post u)) (va_A pre s.heap.size)) args s mc ms (va_A pre s.heap.size)) (F0 m pc ls []) :=
  n_vret (h0 := h0) X M w u hx is (map_fm _ _ _ h3) h2 h3 hdg
theorem hW_start {p : Program} {l : Launch} {e : Env} {R : Room} {s : State} {m : MethodId} {args : Array Value} {below : List Frame} {meth : Method} {c : Code} {H : Heap} {Q : State → Prop} {g : JFrame} (h : s.heap = H) (k : W p l e R s m args below meth c H [] 0 0 Q g) : W p l e R s m args below meth c s.heap [] 0 0 Q g := by rw [h]; exact k
theorem obC : Cond.code objectInit ⟨#[0xb1]⟩ 1 none ∈ TT := TT_in 90 (by decide +kernel) (by decide +kernel)
def flm (mem : Mm) (n b : Nat) (v : Int32) : Mm := fun b' i => if b' = b ∧ i < n then v else mem b' i
theorem fill_lp (n b : Nat) (v : Int32) (hn : n ≤ 1000) : ∀ (j k fu : Nat) (mem : Mm), j + k = n → j < fu → fJ7_fill_53178_b5 n fu mem b v (nI k) (nI n) = some ((fun b' i => if b' = b ∧ k ≤ i ∧ i < n then v else mem b' i), ()) := by
  intro j
  induction j with
  | zero =>
    intro k fu mem hk hf
    obtain ⟨fu, rfl⟩ : ∃ z, fu = z + 1 := ⟨fu - 1, by omega⟩
    have hk : k = n := by omega
    subst hk
    show (if nI k ≤ nI k then some (mem, ()) else _) = _
    rw [if_pos (nI_le (Nat.le_refl k) (by omega))]
    congr 2
    funext b' i
    rw [if_neg (by omega)]
  | succ j ih =>
    intro k fu mem hk hf
    obtain ⟨fu, rfl⟩ : ∃ z, fu = z + 1 := ⟨fu - 1, by omega⟩
    show (if nI n ≤ nI k then some (mem, ()) else gd (nI k) n (wk mem b (nI k).toNatClampNeg v (fun m3 => fJ7_fill_53178_b5 n fu m3 b v (nI k + 1) (nI n)))) = _
    rw [if_neg (nI_ge (a := k) (b := n) (by omega) (by omega))]
    unfold gd wk
    rw [if_neg (vp_in_nI (show k < n by omega) (by omega)), nI_clamp (by omega), ← nI_succ]
    show fJ7_fill_53178_b5 n fu (wr mem b k v) b v (nI (k + 1)) (nI n) = _
    rw [ih (k + 1) fu _ (by omega) (by omega)]
    congr 2
    funext b' i
    unfold wr
    by_cases h1 : b' = b
    · subst h1
      by_cases h2 : i = k
      · subst h2
        rw [if_neg (by omega), if_pos rfl, if_pos rfl, if_pos ⟨rfl, Nat.le_refl _, by omega⟩]
      · rw [if_pos rfl, if_neg h2]
        by_cases h3 : k + 1 ≤ i ∧ i < n
        · rw [if_pos ⟨rfl, h3⟩, if_pos ⟨rfl, by omega, h3.2⟩]
        · rw [if_neg (fun z => h3 z.2), if_neg (by omega)]
    · rw [if_neg (fun z => h1 z.1), if_neg h1, if_neg (fun z => h1 z.1)]
theorem fill_sp {mem : Mm} {n b : Nat} {v : Int32} (hn : n ≤ 1000) : fJ7_fill_53178 mem n b v = some (flm mem n b v, ()) := by
  show fJ7_fill_53178_b5 n 2000 mem b v (nI 0) (nI n) = _
  rw [fill_lp n b v hn n 0 2000 mem (by omega) (by omega)]
  congr 2
  funext b' i
  unfold flm
  by_cases h : b' = b ∧ i < n
  · rw [if_pos h, if_pos ⟨h.1, Nat.zero_le _, h.2⟩]
  · rw [if_neg h, if_neg (fun z => h ⟨z.1, z.2.2⟩)]
theorem n_refa {D : va_G} {ca : Nat → ClassId} {A : Nat → Prop} {H0 : Heap} {s : State} {ws : va_W} {H : Heap} {locs : List Loc} {a t N : Nat} {f g : Nat → Option Nat} (w : Wn D ca A H0 s ws H locs) (k : Nat) (he : ws[k]? = some (a, .inl (ca t, N, .inr (.inr (.inr (.inr f)))))) (h : ∀ i, i < N → f i = g i) : Wn D ca A H0 s (ws.set k (a, .inl (ca t, N, .inr (.inr (.inr (.inr g)))))) H locs := by
  refine ⟨w.1.set w.2.1 he ?_ (fun _ _ => rfl), w.2.1.set he, w.2.2.1, w.2.2.2.1, w.2.2.2.2⟩
  have h0 : H[a]? = some (vp_cell (ca t) (N, .inr (.inr (.inr (.inr f))))) := w.1 k _ he
  show H[a]? = some (vp_cell (ca t) (N, .inr (.inr (.inr (.inr g)))))
  rw [h0, vp_cell_q, vp_cell_q]
  unfold arrV
  congr 3
  funext j
  show va_rf (f j.val) = va_rf (g j.val)
  rw [h j.val j.isLt]
theorem dfX0 : ∀ j, j < 3 → defaultValue (tyX0 j) = vp_V [.null, .null, .int 0] j := fun j hj => by rcases (show j = 0 ∨ j = 1 ∨ j = 2 by omega) with rfl | rfl | rfl <;> rfl
theorem dfX1 : ∀ j, j < 5 → defaultValue (tyX1 j) = vp_V [.null, .int 0, .null, .null, .int 0] j := fun j hj => by rcases (show j = 0 ∨ j = 1 ∨ j = 2 ∨ j = 3 ∨ j = 4 by omega) with rfl | rfl | rfl | rfl | rfl <;> rfl
theorem dfX2 : ∀ j, j < 1 → defaultValue (tyX2 j) = vp_V [.null] j := fun j hj => by rcases (show j = 0 by omega) with rfl <;> rfl
theorem dfX3 : ∀ j, j < 8 → defaultValue (tyX3 j) = vp_V [.int 0, .int 0, .int 0, .int 0, .int 0, .int 0, .int 0, .int 0] j := fun j hj => by rcases (show j = 0 ∨ j = 1 ∨ j = 2 ∨ j = 3 ∨ j = 4 ∨ j = 5 ∨ j = 6 ∨ j = 7 by omega) with rfl | rfl | rfl | rfl | rfl | rfl | rfl | rfl <;> rfl
theorem dfX4 : ∀ j, j < 5 → defaultValue (tyX4 j) = vp_V [.null, .null, .null, .int 0, .int 0] j := fun j hj => by rcases (show j = 0 ∨ j = 1 ∨ j = 2 ∨ j = 3 ∨ j = 4 by omega) with rfl | rfl | rfl | rfl | rfl <;> rfl
theorem dfX5 : ∀ j, j < 2 → defaultValue (tyX5 j) = vp_V [.null, .int 0] j := fun j hj => by rcases (show j = 0 ∨ j = 1 by omega) with rfl | rfl <;> rfl
theorem dfX6 : ∀ j, j < 11 → defaultValue (tyX6 j) = vp_V [.int 0, .int 0, .int 0, .int 0, .int 0, .int 0, .int 0, .int 0, .int 0, .int 0, .null] j := fun j hj => by rcases (show j = 0 ∨ j = 1 ∨ j = 2 ∨ j = 3 ∨ j = 4 ∨ j = 5 ∨ j = 6 ∨ j = 7 ∨ j = 8 ∨ j = 9 ∨ j = 10 by omega) with rfl | rfl | rfl | rfl | rfl | rfl | rfl | rfl | rfl | rfl | rfl <;> rfl
theorem dfX7 : ∀ j, j < 6 → defaultValue (tyX7 j) = vp_V [.null, .null, .int 0, .int 0, .int 0, .int 0] j := fun j hj => by rcases (show j = 0 ∨ j = 1 ∨ j = 2 ∨ j = 3 ∨ j = 4 ∨ j = 5 by omega) with rfl | rfl | rfl | rfl | rfl | rfl <;> rfl
theorem dfX8 : ∀ j, j < 16 → defaultValue (tyX8 j) = vp_V [.null, .null, .null, .null, .null, .null, .null, .null, .null, .null, .null, .int 0, .int 0, .int 0, .int 0, .int 0] j := fun j hj => by rcases (show j = 0 ∨ j = 1 ∨ j = 2 ∨ j = 3 ∨ j = 4 ∨ j = 5 ∨ j = 6 ∨ j = 7 ∨ j = 8 ∨ j = 9 ∨ j = 10 ∨ j = 11 ∨ j = 12 ∨ j = 13 ∨ j = 14 ∨ j = 15 by omega) with rfl | rfl | rfl | rfl | rfl | rfl | rfl | rfl | rfl | rfl | rfl | rfl | rfl | rfl | rfl | rfl <;> rfl
theorem dfX9 : ∀ j, j < 25 → defaultValue (tyX9 j) = vp_V [.int 0, .null, .null, .null, .null, .null, .int 0, .int 0, .int 0, .null, .null, .int 0, .int 0, .int 0, .int 0, .int 0, .int 0, .int 0, .int 0, .int 0, .null, .null, .null, .null, .null] j := fun j hj => by rcases (show j = 0 ∨ j = 1 ∨ j = 2 ∨ j = 3 ∨ j = 4 ∨ j = 5 ∨ j = 6 ∨ j = 7 ∨ j = 8 ∨ j = 9 ∨ j = 10 ∨ j = 11 ∨ j = 12 ∨ j = 13 ∨ j = 14 ∨ j = 15 ∨ j = 16 ∨ j = 17 ∨ j = 18 ∨ j = 19 ∨ j = 20 ∨ j = 21 ∨ j = 22 ∨ j = 23 ∨ j = 24 by omega) with rfl | rfl | rfl | rfl | rfl | rfl | rfl | rfl | rfl | rfl | rfl | rfl | rfl | rfl | rfl | rfl | rfl | rfl | rfl | rfl | rfl | rfl | rfl | rfl | rfl <;> rfl
