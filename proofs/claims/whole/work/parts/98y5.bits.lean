/-! PURE: how many bits a word has -/
theorem bt_nI {X i : Nat} (hi : i < 32) : bt (nI X) i = X.testBit i := by
  show (BitVec.ofNat 32 X).getLsbD i = _
  rw [BitVec.getLsbD_ofNat, decide_eq_true hi, Bool.true_and]
theorem ex_nI (x : Int32) : ∃ X, X < 2 ^ 32 ∧ x = nI X := by
  refine ⟨x.toBitVec.toNat, x.toBitVec.isLt, ?_⟩
  apply Int32.toBitVec_inj.mp
  show x.toBitVec = BitVec.ofNat 32 x.toBitVec.toNat
  apply BitVec.eq_of_toNat_eq
  rw [BitVec.toNat_ofNat, Nat.mod_eq_of_lt x.toBitVec.isLt]
theorem ush_nI {X k : Nat} (hX : X < 2 ^ 32) (hk : k < 32) : ush (nI X) (nI k) = nI (X / 2 ^ k) := by
  apply b_ext
  intro i hi
  unfold ush
  rw [b_ushr k hk, bt_nI hi, Nat.testBit_div_two_pow]
  by_cases h : k + i < 32
  · rw [bt_nI h, Nat.add_comm]
  · rw [b_big (by omega), Nat.testBit_lt_two_pow (Nat.lt_of_lt_of_le hX (Nat.pow_le_pow_right (by decide) (by omega)))]
theorem and2 {a b m n : Nat} (ha : a < 256) (hm : m < 256) : (a + 256 * b) &&& (m + 256 * n) = (a &&& m) + 256 * (b &&& n) := by
  have hc : a &&& m < 2 ^ 8 := Nat.lt_of_le_of_lt Nat.and_le_left ha
  apply Nat.eq_of_testBit_eq
  intro i
  rw [Nat.testBit_and, Nat.add_comm a, Nat.add_comm m, Nat.add_comm (a &&& m), show (256 : Nat) = 2 ^ 8 from rfl, Nat.testBit_two_pow_mul_add b ha, Nat.testBit_two_pow_mul_add n hm, Nat.testBit_two_pow_mul_add (b &&& n) hc]
  by_cases h : i < 8
  · rw [if_pos h, if_pos h, if_pos h, Nat.testBit_and]
  · rw [if_neg h, if_neg h, if_neg h, Nat.testBit_and]
theorem and4 {a b c d m : Nat} (ha : a < 256) (hb : b < 256) (hc : c < 256) (hm : m < 256) : (a + 256 * b + 65536 * c + 16777216 * d) &&& (m + 256 * m + 65536 * m + 16777216 * m) = (a &&& m) + 256 * (b &&& m) + 65536 * (c &&& m) + 16777216 * (d &&& m) := by
  have e1 : a + 256 * b + 65536 * c + 16777216 * d = a + 256 * (b + 256 * (c + 256 * d)) := by omega
  have e2 : m + 256 * m + 65536 * m + 16777216 * m = m + 256 * (m + 256 * (m + 256 * m)) := by omega
  rw [e1, e2, and2 ha hm, and2 hb hm, and2 hc hm]
  omega
def pA (b : Nat) : Nat := b - ((b / 2) &&& 85)
def pB (b : Nat) : Nat := (pA b &&& 51) + ((pA b / 4) &&& 51)
def pC (b : Nat) : Nat := (pB b + pB b / 16) &&& 15
theorem tabA : ∀ b, b < 256 → ∀ e, e < 2 → (b / 2 + 128 * e) &&& 85 = (b / 2) &&& 85 := by decide +kernel
theorem tabA2 : ∀ b, b < 256 → ((b / 2) &&& 85) ≤ b ∧ pA b < 256 := by decide +kernel
theorem tabB : ∀ b, b < 256 → ∀ e, e < 4 → (b / 4 + 64 * e) &&& 51 = (b / 4) &&& 51 := by decide +kernel
theorem tabB2 : ∀ b, b < 256 → pB b ≤ 68 ∧ pB b % 16 ≤ 4 := by decide +kernel
theorem tabC : ∀ b, b < 69 → ∀ e, e < 5 → (b + b / 16 + 16 * e) &&& 15 = (b + b / 16) &&& 15 := by decide +kernel
theorem tabP : ∀ b, b < 256 → pC b = fa_cnt (fun i => b.testBit i) 8 ∧ pC b ≤ 8 := by decide +kernel
theorem bc_end {p q r s : Nat} (hp : p ≤ 8) (hq : q ≤ 8) (hr : r ≤ 8) (hs : s ≤ 8) : (p + 256 * q + 65536 * r + 16777216 * s + (p + 256 * q + 65536 * r + 16777216 * s) / 2 ^ 8 + (p + 256 * q + 65536 * r + 16777216 * s + (p + 256 * q + 65536 * r + 16777216 * s) / 2 ^ 8) / 2 ^ 16) % 2 ^ 6 = p + q + r + s := by
  have e1 : (p + 256 * q + 65536 * r + 16777216 * s) / 2 ^ 8 = q + 256 * r + 65536 * s := by omega
  rw [e1]
  have e2 : (p + 256 * q + 65536 * r + 16777216 * s + (q + 256 * r + 65536 * s)) / 2 ^ 16 = r + s + 256 * s := by omega
  rw [e2]
  omega
theorem bc_nat {a b c d : Nat} (ha : a < 256) (hb : b < 256) (hc : c < 256) (hd : d < 256) : fJ6_bitCount_0f7a4 (nI (a + 256 * b + 65536 * c + 16777216 * d)) = some (nI (pC a + pC b + pC c + pC d)) := by
  unfold fJ6_bitCount_0f7a4
  rw [lk_eq, lk_eq, lk_eq, lk_eq, lk_eq]
  have s1 : nI (a + 256 * b + 65536 * c + 16777216 * d) - (ush (nI (a + 256 * b + 65536 * c + 16777216 * d)) (1 : Int32) &&& (1431655765 : Int32)) = nI (pA a + 256 * pA b + 65536 * pA c + 16777216 * pA d) := by
    have u := ush_nI (X := a + 256 * b + 65536 * c + 16777216 * d) (k := 1) (by omega) (by decide)
    have dv : (a + 256 * b + 65536 * c + 16777216 * d) / 2 ^ 1 = (a / 2 + 128 * (b % 2)) + 256 * (b / 2 + 128 * (c % 2)) + 65536 * (c / 2 + 128 * (d % 2)) + 16777216 * (d / 2) := by omega
    rw [show (1 : Int32) = nI 1 from rfl, u, dv, show (1431655765 : Int32) = nI (85 + 256 * 85 + 65536 * 85 + 16777216 * 85) from rfl, fa_and, and4 (by omega) (by omega) (by omega) (by decide), tabA a ha _ (by omega), tabA b hb _ (by omega), tabA c hc _ (by omega)]
    have t1 := (tabA2 a ha).1; have t2 := (tabA2 b hb).1; have t3 := (tabA2 c hc).1; have t4 := (tabA2 d hd).1
    rw [pk_sub (by omega)]
    unfold pA
    congr 1
    omega
  rw [s1]
  have a1 := (tabA2 a ha).2; have a2 := (tabA2 b hb).2; have a3 := (tabA2 c hc).2; have a4 := (tabA2 d hd).2
  have s2 : (nI (pA a + 256 * pA b + 65536 * pA c + 16777216 * pA d) &&& (858993459 : Int32)) + (ush (nI (pA a + 256 * pA b + 65536 * pA c + 16777216 * pA d)) (2 : Int32) &&& (858993459 : Int32)) = nI (pB a + 256 * pB b + 65536 * pB c + 16777216 * pB d) := by
    have u := ush_nI (X := pA a + 256 * pA b + 65536 * pA c + 16777216 * pA d) (k := 2) (by omega) (by decide)
    have dv : (pA a + 256 * pA b + 65536 * pA c + 16777216 * pA d) / 2 ^ 2 = (pA a / 4 + 64 * (pA b % 4)) + 256 * (pA b / 4 + 64 * (pA c % 4)) + 65536 * (pA c / 4 + 64 * (pA d % 4)) + 16777216 * (pA d / 4) := by omega
    rw [show (2 : Int32) = nI 2 from rfl, u, dv, show (858993459 : Int32) = nI (51 + 256 * 51 + 65536 * 51 + 16777216 * 51) from rfl, fa_and, fa_and, and4 a1 a2 a3 (by decide), and4 (by omega) (by omega) (by omega) (by decide), tabB _ a1 _ (by omega), tabB _ a2 _ (by omega), tabB _ a3 _ (by omega), nI_add]
    unfold pB
    congr 1
    omega
  rw [s2]
  obtain ⟨b1, c1⟩ := tabB2 a ha
  obtain ⟨b2, c2⟩ := tabB2 b hb
  obtain ⟨b3, c3⟩ := tabB2 c hc
  obtain ⟨b4, c4⟩ := tabB2 d hd
  have s3 : (nI (pB a + 256 * pB b + 65536 * pB c + 16777216 * pB d) + ush (nI (pB a + 256 * pB b + 65536 * pB c + 16777216 * pB d)) (4 : Int32)) &&& (252645135 : Int32) = nI (pC a + 256 * pC b + 65536 * pC c + 16777216 * pC d) := by
    have u := ush_nI (X := pB a + 256 * pB b + 65536 * pB c + 16777216 * pB d) (k := 4) (by omega) (by decide)
    have dv : pB a + 256 * pB b + 65536 * pB c + 16777216 * pB d + (pB a + 256 * pB b + 65536 * pB c + 16777216 * pB d) / 2 ^ 4 = (pB a + pB a / 16 + 16 * (pB b % 16)) + 256 * (pB b + pB b / 16 + 16 * (pB c % 16)) + 65536 * (pB c + pB c / 16 + 16 * (pB d % 16)) + 16777216 * (pB d + pB d / 16) := by omega
    rw [show (4 : Int32) = nI 4 from rfl, u, nI_add, dv, show (252645135 : Int32) = nI (15 + 256 * 15 + 65536 * 15 + 16777216 * 15) from rfl, fa_and, and4 (by omega) (by omega) (by omega) (by decide), tabC _ (by omega) _ (by omega), tabC _ (by omega) _ (by omega), tabC _ (by omega) _ (by omega)]
    rfl
  rw [s3]
  have p1 := (tabP a ha).2; have p2 := (tabP b hb).2; have p3 := (tabP c hc).2; have p4 := (tabP d hd).2
  rw [show (8 : Int32) = nI 8 from rfl, show (16 : Int32) = nI 16 from rfl, ush_nI (by omega) (by decide), nI_add, ush_nI (by omega) (by decide), nI_add, pk_andN (by omega) 6 (by decide), bc_end p1 p2 p3 p4]
theorem cnt_add (p : Nat → Bool) (n : Nat) : ∀ k, fa_cnt p (n + k) = fa_cnt p n + fa_cnt (fun i => p (n + i)) k
  | 0 => rfl
  | k + 1 => by
    show fa_cnt p (n + k) + (if p (n + k) = true then 1 else 0) = fa_cnt p n + (fa_cnt (fun i => p (n + i)) k + (if p (n + k) = true then 1 else 0))
    rw [cnt_add p n k]
    omega
theorem bc_sp (x : Int32) : fJ6_bitCount_0f7a4 x = some (nI (fa_cnt (fun i => bt x i) 32)) := by
  obtain ⟨X, hX, rfl⟩ := ex_nI x
  have e : X = X % 256 + 256 * (X / 256 % 256) + 65536 * (X / 65536 % 256) + 16777216 * (X / 16777216 % 256) := by omega
  have byte : ∀ n b, b = X / 2 ^ n % 2 ^ 8 → n + 8 ≤ 32 → fa_cnt (fun i => bt (nI X) (n + i)) 8 = pC b := fun n b hb hn => by
    subst hb
    rw [(tabP _ (Nat.mod_lt _ (by decide))).1]
    apply fa_cnt_cong
    intro k hk
    rw [bt_nI (by omega), show (256 : Nat) = 2 ^ 8 from rfl, Nat.testBit_mod_two_pow, decide_eq_true hk, Bool.true_and, Nat.testBit_div_two_pow, Nat.add_comm]
  have c32 : fa_cnt (fun i => bt (nI X) i) 32 = pC (X % 256) + pC (X / 256 % 256) + pC (X / 65536 % 256) + pC (X / 16777216 % 256) := by
    rw [← byte 0 (X % 256) (by omega) (by decide), ← byte 8 (X / 256 % 256) rfl (by decide), ← byte 16 (X / 65536 % 256) rfl (by decide), ← byte 24 (X / 16777216 % 256) rfl (by decide)]
    rw [show (32 : Nat) = 24 + 8 from rfl, cnt_add _ 24 8, show (24 : Nat) = 16 + 8 from rfl, cnt_add _ 16 8, show (16 : Nat) = 8 + 8 from rfl, cnt_add _ 8 8]
    have z : fa_cnt (fun i => bt (nI X) (0 + i)) 8 = fa_cnt (fun i => bt (nI X) i) 8 := fa_cnt_cong (fun k _ => by rw [Nat.zero_add])
    rw [z]
  have key := bc_nat (a := X % 256) (b := X / 256 % 256) (c := X / 65536 % 256) (d := X / 16777216 % 256) (Nat.mod_lt _ (by decide)) (Nat.mod_lt _ (by decide)) (Nat.mod_lt _ (by decide)) (Nat.mod_lt _ (by decide))
  rw [← e] at key
  rw [key, c32]
theorem size_sp {c : Mm} : fX2_size c = some (nI (fa_cnt (fun f => bt (c 45 (f / 32)) (f % 32)) 1088)) := by
  have key := down (P := fun fu w => fX2_size_b4 fu c (nI (fa_cnt (fun f => bt (c 45 (f / 32)) (f % 32)) (32 * w))) (nI w) = some (nI (fa_cnt (fun f => bt (c 45 (f / 32)) (f % 32)) (32 * 34)))) 34 ?_ ?_ 34 0 2000 (by decide) (by decide)
  · exact key
  · intro fu
    have L : fX2_size_b4 (fu + 1) c (nI (fa_cnt (fun f => bt (c 45 (f / 32)) (f % 32)) (32 * 34))) (nI 34) = fX2_size_b4_s (fX2_size_b4 fu) c (nI (fa_cnt (fun f => bt (c 45 (f / 32)) (f % 32)) (32 * 34))) (nI 34) := rfl
    rw [L]
    unfold fX2_size_b4_s
    rw [if_pos (by decide)]
  · intro fu w hw ih
    have L : fX2_size_b4 (fu + 1) c (nI (fa_cnt (fun f => bt (c 45 (f / 32)) (f % 32)) (32 * w))) (nI w) = fX2_size_b4_s (fX2_size_b4 fu) c (nI (fa_cnt (fun f => bt (c 45 (f / 32)) (f % 32)) (32 * w))) (nI w) := rfl
    have e : fa_cnt (fun f => bt (c 45 (f / 32)) (f % 32)) (32 * (w + 1)) = fa_cnt (fun f => bt (c 45 (f / 32)) (f % 32)) (32 * w) + fa_cnt (fun i => bt (c 45 w) i) 32 := by
      rw [Nat.mul_add, Nat.mul_one, cnt_add _ (32 * w) 32]
      congr 1
      apply fa_cnt_cong
      intro k hk
      rw [show (32 * w + k) / 32 = w by omega, show (32 * w + k) % 32 = k by omega]
    rw [L]
    unfold fX2_size_b4_s
    rw [if_neg (show ¬ (34 : Int32) ≤ nI w from nI_ge (b := 34) hw (by decide)), gd_nI hw (by decide), nI_clamp (by omega), bc_sp, bd_eq, lk_eq, nI_add, ← e, na1]
    exact ih
