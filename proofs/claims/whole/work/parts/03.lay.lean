/-! the layouts of the reference (layM) and of the class (layC) -/
def layM : List Kd := [.inr (.inr (9, [none, some 1, some 2, some 3, some 4, some 5, none, none, none, some 6, some 7, none, none, none, none, none, none, none, none, none, some 8, some 9, some 10, some 11, some 12])), .inl (0, 345), .inl (0, 345), .inl (0, 40), .inl (0, 40), .inl (0, 40), .inl (0, 6), .inl (0, 3072), .inl (0, 41), .inl (0, 41), .inl (0, 41), .inl (0, 41), .inl (1, 1100)]
theorem lyM_0 : layM[0]? = some (.inr (.inr (9, [none, some 1, some 2, some 3, some 4, some 5, none, none, none, some 6, some 7, none, none, none, none, none, none, none, none, none, some 8, some 9, some 10, some 11, some 12]))) := rfl
theorem lyM_1 : layM[1]? = some (.inl (0, 345)) := rfl
theorem lyM_2 : layM[2]? = some (.inl (0, 345)) := rfl
theorem lyM_3 : layM[3]? = some (.inl (0, 40)) := rfl
theorem lyM_4 : layM[4]? = some (.inl (0, 40)) := rfl
theorem lyM_5 : layM[5]? = some (.inl (0, 40)) := rfl
theorem lyM_6 : layM[6]? = some (.inl (0, 6)) := rfl
theorem lyM_7 : layM[7]? = some (.inl (0, 3072)) := rfl
theorem lyM_8 : layM[8]? = some (.inl (0, 41)) := rfl
theorem lyM_9 : layM[9]? = some (.inl (0, 41)) := rfl
theorem lyM_10 : layM[10]? = some (.inl (0, 41)) := rfl
theorem lyM_11 : layM[11]? = some (.inl (0, 41)) := rfl
theorem lyM_12 : layM[12]? = some (.inl (1, 1100)) := rfl
theorem lyM_len : layM.length = 13 := rfl
def layC (cap : Nat) : List Kd := [.inr (.inr (8, [some 1, some 2, some 3, some 7, some 15, some 23, some 32, some 34, some 37, some 40, some 44, none, none, none, none, none])), .inl (0, 96), .inl (0, 96), .inr (.inr (4, [some 1, some 2, some 3, none, none])), .inl (0, 6), .inl (0, 6), .inl (0, 6), .inr (.inr (5, [some 1, none])), .inr (.inl (2, 6, 1, 1)), .inr (.inr (3, [none, none, none, none, none, none, none, none])), .inr (.inr (3, [none, none, none, none, none, none, none, none])), .inr (.inr (3, [none, none, none, none, none, none, none, none])), .inr (.inr (3, [none, none, none, none, none, none, none, none])), .inr (.inr (3, [none, none, none, none, none, none, none, none])), .inr (.inr (3, [none, none, none, none, none, none, none, none])), .inr (.inr (5, [some 1, none])), .inr (.inl (2, 6, 1, 1)), .inr (.inr (3, [none, none, none, none, none, none, none, none])), .inr (.inr (3, [none, none, none, none, none, none, none, none])), .inr (.inr (3, [none, none, none, none, none, none, none, none])), .inr (.inr (3, [none, none, none, none, none, none, none, none])), .inr (.inr (3, [none, none, none, none, none, none, none, none])), .inr (.inr (3, [none, none, none, none, none, none, none, none])), .inr (.inl (3, 4, 1, 2)), .inr (.inr (6, [none, none, none, none, none, none, none, none, none, none, some 1])), .inl (0, 3), .inr (.inr (6, [none, none, none, none, none, none, none, none, none, none, some 1])), .inl (0, 3), .inr (.inr (6, [none, none, none, none, none, none, none, none, none, none, some 1])), .inl (0, 3), .inr (.inr (6, [none, none, none, none, none, none, none, none, none, none, some 1])), .inl (0, 3), .inr (.inr (6, [none, none, none, none, none, none, none, none, none, none, some 1])), .inl (0, 3), .inr (.inr (7, [some 1, some 2, none, none, none, none])), .inl (0, 3), .inl (0, 3), .inr (.inr (0, [some 1, some 2, none])), .inl (0, 40), .inl (0, 40), .inr (.inr (1, [some 1, none, some 2, some 3, none])), .inl (0, 6), .inl (0, cap), .inl (0, cap), .inr (.inr (2, [some 1])), .inl (0, 34)]
theorem lyC_0 {cap : Nat} : (layC cap)[0]? = some (.inr (.inr (8, [some 1, some 2, some 3, some 7, some 15, some 23, some 32, some 34, some 37, some 40, some 44, none, none, none, none, none]))) := rfl
theorem lyC_1 {cap : Nat} : (layC cap)[1]? = some (.inl (0, 96)) := rfl
theorem lyC_2 {cap : Nat} : (layC cap)[2]? = some (.inl (0, 96)) := rfl
theorem lyC_3 {cap : Nat} : (layC cap)[3]? = some (.inr (.inr (4, [some 1, some 2, some 3, none, none]))) := rfl
theorem lyC_4 {cap : Nat} : (layC cap)[4]? = some (.inl (0, 6)) := rfl
theorem lyC_5 {cap : Nat} : (layC cap)[5]? = some (.inl (0, 6)) := rfl
theorem lyC_6 {cap : Nat} : (layC cap)[6]? = some (.inl (0, 6)) := rfl
theorem lyC_7 {cap : Nat} : (layC cap)[7]? = some (.inr (.inr (5, [some 1, none]))) := rfl
theorem lyC_8 {cap : Nat} : (layC cap)[8]? = some (.inr (.inl (2, 6, 1, 1))) := rfl
theorem lyC_9 {cap : Nat} : (layC cap)[9]? = some (.inr (.inr (3, [none, none, none, none, none, none, none, none]))) := rfl
theorem lyC_10 {cap : Nat} : (layC cap)[10]? = some (.inr (.inr (3, [none, none, none, none, none, none, none, none]))) := rfl
theorem lyC_11 {cap : Nat} : (layC cap)[11]? = some (.inr (.inr (3, [none, none, none, none, none, none, none, none]))) := rfl
theorem lyC_12 {cap : Nat} : (layC cap)[12]? = some (.inr (.inr (3, [none, none, none, none, none, none, none, none]))) := rfl
theorem lyC_13 {cap : Nat} : (layC cap)[13]? = some (.inr (.inr (3, [none, none, none, none, none, none, none, none]))) := rfl
theorem lyC_14 {cap : Nat} : (layC cap)[14]? = some (.inr (.inr (3, [none, none, none, none, none, none, none, none]))) := rfl
theorem lyC_15 {cap : Nat} : (layC cap)[15]? = some (.inr (.inr (5, [some 1, none]))) := rfl
theorem lyC_16 {cap : Nat} : (layC cap)[16]? = some (.inr (.inl (2, 6, 1, 1))) := rfl
theorem lyC_17 {cap : Nat} : (layC cap)[17]? = some (.inr (.inr (3, [none, none, none, none, none, none, none, none]))) := rfl
theorem lyC_18 {cap : Nat} : (layC cap)[18]? = some (.inr (.inr (3, [none, none, none, none, none, none, none, none]))) := rfl
theorem lyC_19 {cap : Nat} : (layC cap)[19]? = some (.inr (.inr (3, [none, none, none, none, none, none, none, none]))) := rfl
theorem lyC_20 {cap : Nat} : (layC cap)[20]? = some (.inr (.inr (3, [none, none, none, none, none, none, none, none]))) := rfl
theorem lyC_21 {cap : Nat} : (layC cap)[21]? = some (.inr (.inr (3, [none, none, none, none, none, none, none, none]))) := rfl
theorem lyC_22 {cap : Nat} : (layC cap)[22]? = some (.inr (.inr (3, [none, none, none, none, none, none, none, none]))) := rfl
theorem lyC_23 {cap : Nat} : (layC cap)[23]? = some (.inr (.inl (3, 4, 1, 2))) := rfl
theorem lyC_24 {cap : Nat} : (layC cap)[24]? = some (.inr (.inr (6, [none, none, none, none, none, none, none, none, none, none, some 1]))) := rfl
theorem lyC_25 {cap : Nat} : (layC cap)[25]? = some (.inl (0, 3)) := rfl
theorem lyC_26 {cap : Nat} : (layC cap)[26]? = some (.inr (.inr (6, [none, none, none, none, none, none, none, none, none, none, some 1]))) := rfl
theorem lyC_27 {cap : Nat} : (layC cap)[27]? = some (.inl (0, 3)) := rfl
theorem lyC_28 {cap : Nat} : (layC cap)[28]? = some (.inr (.inr (6, [none, none, none, none, none, none, none, none, none, none, some 1]))) := rfl
theorem lyC_29 {cap : Nat} : (layC cap)[29]? = some (.inl (0, 3)) := rfl
theorem lyC_30 {cap : Nat} : (layC cap)[30]? = some (.inr (.inr (6, [none, none, none, none, none, none, none, none, none, none, some 1]))) := rfl
theorem lyC_31 {cap : Nat} : (layC cap)[31]? = some (.inl (0, 3)) := rfl
theorem lyC_32 {cap : Nat} : (layC cap)[32]? = some (.inr (.inr (6, [none, none, none, none, none, none, none, none, none, none, some 1]))) := rfl
theorem lyC_33 {cap : Nat} : (layC cap)[33]? = some (.inl (0, 3)) := rfl
theorem lyC_34 {cap : Nat} : (layC cap)[34]? = some (.inr (.inr (7, [some 1, some 2, none, none, none, none]))) := rfl
theorem lyC_35 {cap : Nat} : (layC cap)[35]? = some (.inl (0, 3)) := rfl
theorem lyC_36 {cap : Nat} : (layC cap)[36]? = some (.inl (0, 3)) := rfl
theorem lyC_37 {cap : Nat} : (layC cap)[37]? = some (.inr (.inr (0, [some 1, some 2, none]))) := rfl
theorem lyC_38 {cap : Nat} : (layC cap)[38]? = some (.inl (0, 40)) := rfl
theorem lyC_39 {cap : Nat} : (layC cap)[39]? = some (.inl (0, 40)) := rfl
theorem lyC_40 {cap : Nat} : (layC cap)[40]? = some (.inr (.inr (1, [some 1, none, some 2, some 3, none]))) := rfl
theorem lyC_41 {cap : Nat} : (layC cap)[41]? = some (.inl (0, 6)) := rfl
theorem lyC_42 {cap : Nat} : (layC cap)[42]? = some (.inl (0, cap)) := rfl
theorem lyC_43 {cap : Nat} : (layC cap)[43]? = some (.inl (0, cap)) := rfl
theorem lyC_44 {cap : Nat} : (layC cap)[44]? = some (.inr (.inr (2, [some 1]))) := rfl
theorem lyC_45 {cap : Nat} : (layC cap)[45]? = some (.inl (0, 34)) := rfl
theorem lyC_len {cap : Nat} : (layC cap).length = 46 := rfl
def isPl (b : Nat) : Prop := (9 ≤ b ∧ b ≤ 14) ∨ (17 ≤ b ∧ b ≤ 22)
def isWk (b : Nat) : Prop := b = 24 ∨ b = 26 ∨ b = 28 ∨ b = 30 ∨ b = 32
def isSt (b : Nat) : Prop := b = 7 ∨ b = 15
theorem lyPl {cap b : Nat} (h : isPl b) : (layC cap)[b]? = some (.inr (.inr (3, [none, none, none, none, none, none, none, none]))) := by
  rcases (show b = 9 ∨ b = 10 ∨ b = 11 ∨ b = 12 ∨ b = 13 ∨ b = 14 ∨ b = 17 ∨ b = 18 ∨ b = 19 ∨ b = 20 ∨ b = 21 ∨ b = 22 by unfold isPl at h; omega) with rfl | rfl | rfl | rfl | rfl | rfl | rfl | rfl | rfl | rfl | rfl | rfl <;> rfl
theorem lyWk {cap b : Nat} (h : isWk b) : (layC cap)[b]? = some (.inr (.inr (6, [none, none, none, none, none, none, none, none, none, none, some 1]))) := by
  rcases h with rfl | rfl | rfl | rfl | rfl <;> rfl
theorem lyWC {cap b : Nat} (h : isWk b) : (layC cap)[b + 1]? = some (.inl (0, 3)) := by
  rcases h with rfl | rfl | rfl | rfl | rfl <;> rfl
theorem lySt {cap b : Nat} (h : isSt b) : (layC cap)[b]? = some (.inr (.inr (5, [some 1, none]))) := by
  rcases h with rfl | rfl <;> rfl
theorem lySA {cap b : Nat} (h : isSt b) : (layC cap)[b + 1]? = some (.inr (.inl (2, 6, 1, 1))) := by
  rcases h with rfl | rfl <;> rfl
theorem vp_lt {i : Int32} {n : Nat} (h : vp_in i n) : i.toNatClampNeg < n := Nat.not_le.mp fun q => h (Or.inr q)
theorem isPl_of {b z : Nat} {i : Int32} (h : isSt b) (hi : vp_in i 6) (e : b + 1 + 1 + 1 * i.toNatClampNeg = z) : isPl z := by
  have := vp_lt hi
  rcases h with rfl | rfl <;> (unfold isPl; omega)
theorem isWk_of {z : Nat} {i : Int32} (hi : vp_in i 4) (e : 23 + 1 + 2 * i.toNatClampNeg = z) : isWk z := by
  have := vp_lt hi
  unfold isWk; omega
theorem isSt7 : isSt 7 := Or.inl rfl
theorem isSt15 : isSt 15 := Or.inr rfl
theorem isWk32 : isWk 32 := Or.inr (Or.inr (Or.inr (Or.inr rfl)))
def isPlB (b : Nat) : Bool := (decide (9 ≤ b) && decide (b ≤ 14)) || (decide (17 ≤ b) && decide (b ≤ 22))
theorem isPl_B {b : Nat} (h : isPlB b = true) : isPl b := by
  simp only [isPlB, Bool.or_eq_true, Bool.and_eq_true, decide_eq_true_eq] at h
  exact h
def oc {α : Type} (r : Option Nat) (a : Option α) (k : Nat → Option α) : Option α := match r with
  | none => a
  | some b => if isPlB b = true then k b else none
theorem oc_n {α : Type} {a : Option α} {k : Nat → Option α} {o : α} (h : oc none a k = some o) : a = some o := h
theorem oc_s {α : Type} {b : Nat} {a : Option α} {k : Nat → Option α} {o : α} (h : oc (some b) a k = some o) : isPl b ∧ k b = some o := by
  replace h : (if isPlB b = true then k b else none) = some o := h
  by_cases hc : isPlB b = true
  · rw [if_pos hc] at h; exact ⟨isPl_B hc, h⟩
  · rw [if_neg hc] at h; cases h
def ush (x y : Int32) : Int32 := (x.toUInt32 >>> (y.toUInt32 &&& Int32.toUInt32 31)).toInt32
def lkN {α : Type} (e : Nat) (k : Nat → Option α) : Option α := k e
theorem lkN_some {α : Type} {e : Nat} {k : Nat → Option α} {o : α} (h : lkN e k = some o) : ∃ x, e = x ∧ k x = some o := ⟨_, rfl, h⟩
theorem mmax_1 : Cond.static Lib.Math.max.name ∈ TT := tw_696
theorem mmax_2 : Cond.initialized "java/lang/Math" ∈ TT := tw_76
theorem mmax_3 : Cond.code Lib.Math.max.name Lib.Math.max.code 2 (some .int) ∈ TT := TT_in 697 (by decide +kernel) (by decide +kernel)
theorem mmin_1 : Cond.static Lib.Math.min.name ∈ TT := tw_626
theorem mmin_2 : Cond.initialized "java/lang/Math" ∈ TT := tw_76
theorem mmin_3 : Cond.code Lib.Math.min.name Lib.Math.min.code 2 (some .int) ∈ TT := TT_in 627 (by decide +kernel) (by decide +kernel)
theorem va_rf_cat (r : Option Nat) : (va_rf r).category = 1 := by cases r <;> rfl

