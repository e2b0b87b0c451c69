/-- what the pure proof owes for entry -/
def St_entry (Rel : Nat → Nat → Mm → Mm → Prop) : Prop := ∀ (n cap : Nat) (cm mm : Mm) (a1 : Int32) (a2 : Int32) (a3 : Int32) (a4 : Int32) (a5 : Int32), n < 512 → Rel n cap cm mm → ∃ (cm' mm' : Mm) (r : Int32), fX8_entry cm a1 a2 a3 a4 a5 = some (cm', r) ∧ fX9_entry mm a1 a2 a3 a4 a5 = some (mm', r) ∧ Rel (n + 1) cap cm' mm'
set_option maxRecDepth 100000 in
set_option maxHeartbeats 4000000 in
theorem law_entry {p : Program} {l : Launch} {e : Env} {s : State} {m : MethodId} {below : List Frame} {meth : Method} {c : Code} {D : va_G} {ca : Nat → ClassId} {ad1 ad2 : Nat → Nat} {cap q3 : Nat} {cm mm : Mm} {fo : Nat → Int64} {cL : ClassId} {b L : Nat} {xs : Nat → Int32} {i n cells slots : Nat} {H : Heap} {locs : List Loc} {ls : Array Slot} {Q : State → Prop} {Rel : Nat → Nat → Mm → Mm → Prop} (X : CallFix p m c cL_law 7 s #[Value.ref b] TT RL) (hX : va_X b L xs s s.heap) (hbl : b < s.heap.size) (hi : i + 6 ≤ L) (hL : L ≤ 3072) (hSt : St_entry Rel) (hn : n < 512) (hrel : Rel n cap cm mm) (w : LW D ca ad1 cap cm ad2 mm q3 fo cL s H locs) (hl : lv_has ls 7 [(0, .ref b), (1, .ref (ad1 0)), (2, .ref (ad2 0)), (3, .ref q3), (4, .int (nI i))]) (hc : cells + 2 ≤ 601024) (hs : slots + 1024 ≤ 7293034) (kk : ∀ (u : Nat → Nat) (cap' : Nat) (cm' mm' : Mm) (fo' : Nat → Int64) (H : Heap) (locs : List Loc) (ls : Array Slot) (cells' slots' : Nat), cells' ≤ cells + 2 → slots' ≤ slots + 1024 → Rel (n + 1) cap' cm' mm' → LW D ca u cap' cm' ad2 mm' q3 fo' cL s H locs → lv_has ls 7 [(0, .ref b), (1, .ref (u 0)), (2, .ref (ad2 0)), (3, .ref q3), (4, .int (nI i))] → W p l e room_1 s m #[Value.ref b] below meth c H locs cells' slots' Q (F0 m 1137 ls [])) : W p l e room_1 s m #[Value.ref b] below meth c H locs cells slots Q (F0 m 148 ls []) := by
  have hbA : ¬ (fun q : Nat => s.heap.size ≤ q) b := Nat.not_le.mpr hbl
  refine lv_aload_n X.1 X.2.1 dL_law_148 rfl (lv_at hl 1 rfl) ?_
  refine lv_aload_n X.1 X.2.1 dL_law_149 rfl (lv_at hl 0 rfl) ?_
  refine lv_iload X.1 X.2.1 dL_law_150 (lv_at hl 4 rfl) ?_
  refine lv_iconst (v := (1 : Int32)) X.1 X.2.1 dL_law_152 (by decide) ?_
  refine lv_iadd X.1 X.2.1 dL_law_153 ?_
  refine lv_name (y := nI (i + 1)) (nI_add i 1) ?_
  refine va_sld X.1 X.2.1 hX hbl hbA w.2.2.2.1 (vp_in_nI (show i + 1 < L by omega) (by omega)) dL_law_154 ?_
  refine lv_name (y := xs (i + 1)) (by rw [nI_clamp (by omega)]) ?_
  refine lv_aload_n X.1 X.2.1 dL_law_155 rfl (lv_at hl 0 rfl) ?_
  refine lv_iload X.1 X.2.1 dL_law_156 (lv_at hl 4 rfl) ?_
  refine lv_iconst (v := (2 : Int32)) X.1 X.2.1 dL_law_158 (by decide) ?_
  refine lv_iadd X.1 X.2.1 dL_law_159 ?_
  refine lv_name (y := nI (i + 2)) (nI_add i 2) ?_
  refine va_sld X.1 X.2.1 hX hbl hbA w.2.2.2.1 (vp_in_nI (show i + 2 < L by omega) (by omega)) dL_law_160 ?_
  refine lv_name (y := xs (i + 2)) (by rw [nI_clamp (by omega)]) ?_
  refine lv_aload_n X.1 X.2.1 dL_law_161 rfl (lv_at hl 0 rfl) ?_
  refine lv_iload X.1 X.2.1 dL_law_162 (lv_at hl 4 rfl) ?_
  refine lv_iconst (v := (3 : Int32)) X.1 X.2.1 dL_law_164 (by decide) ?_
  refine lv_iadd X.1 X.2.1 dL_law_165 ?_
  refine lv_name (y := nI (i + 3)) (nI_add i 3) ?_
  refine va_sld X.1 X.2.1 hX hbl hbA w.2.2.2.1 (vp_in_nI (show i + 3 < L by omega) (by omega)) dL_law_166 ?_
  refine lv_name (y := xs (i + 3)) (by rw [nI_clamp (by omega)]) ?_
  refine lv_aload_n X.1 X.2.1 dL_law_167 rfl (lv_at hl 0 rfl) ?_
  refine lv_iload X.1 X.2.1 dL_law_168 (lv_at hl 4 rfl) ?_
  refine lv_iconst (v := (4 : Int32)) X.1 X.2.1 dL_law_170 (by decide) ?_
  refine lv_iadd X.1 X.2.1 dL_law_171 ?_
  refine lv_name (y := nI (i + 4)) (nI_add i 4) ?_
  refine va_sld X.1 X.2.1 hX hbl hbA w.2.2.2.1 (vp_in_nI (show i + 4 < L by omega) (by omega)) dL_law_172 ?_
  refine lv_name (y := xs (i + 4)) (by rw [nI_clamp (by omega)]) ?_
  refine lv_aload_n X.1 X.2.1 dL_law_173 rfl (lv_at hl 0 rfl) ?_
  refine lv_iload X.1 X.2.1 dL_law_174 (lv_at hl 4 rfl) ?_
  refine lv_iconst (v := (5 : Int32)) X.1 X.2.1 dL_law_176 (by decide) ?_
  refine lv_iadd X.1 X.2.1 dL_law_177 ?_
  refine lv_name (y := nI (i + 5)) (nI_add i 5) ?_
  refine va_sld X.1 X.2.1 hX hbl hbA w.2.2.2.1 (vp_in_nI (show i + 5 < L by omega) (by omega)) dL_law_178 ?_
  refine lv_name (y := xs (i + 5)) (by rw [nI_clamp (by omega)]) ?_
  obtain ⟨cm', mm', r, hc1, hm1, hrel'⟩ := hSt n cap cm mm (xs (i + 1)) (xs (i + 2)) (xs (i + 3)) (xs (i + 4)) (xs (i + 5)) hn hrel
  refine L_C (As := [.int (xs (i + 1)), .int (xs (i + 2)), .int (xs (i + 3)), .int (xs (i + 4)), .int (xs (i + 5))]) (rest := []) X w (kX8_entry (cap := cap) l D ca ad1 cm (xs (i + 1)) (xs (i + 2)) (xs (i + 3)) (xs (i + 4)) (xs (i + 5)) hc1) (gTV tw_361 tw_362 tw_363 tw_65 tw_364) hdX8_entry ⟨Nat.le_of_ble_eq_true rfl, Nat.le_of_ble_eq_true rfl⟩ rfl hl.1 rfl (Nat.le_of_ble_eq_true rfl) dL_law_179 ⟨by show _ ≤ 601024; omega, by show _ ≤ 7293034; omega⟩ (fun H locs w => ?_)
  refine lv_aload_n X.1 X.2.1 dL_law_182 rfl (lv_at hl 2 rfl) ?_
  refine lv_aload_n X.1 X.2.1 dL_law_183 rfl (lv_at hl 0 rfl) ?_
  refine lv_iload X.1 X.2.1 dL_law_184 (lv_at hl 4 rfl) ?_
  refine lv_iconst (v := (1 : Int32)) X.1 X.2.1 dL_law_186 (by decide) ?_
  refine lv_iadd X.1 X.2.1 dL_law_187 ?_
  refine lv_name (y := nI (i + 1)) (nI_add i 1) ?_
  refine va_sld X.1 X.2.1 hX hbl hbA w.2.2.2.1 (vp_in_nI (show i + 1 < L by omega) (by omega)) dL_law_188 ?_
  refine lv_name (y := xs (i + 1)) (by rw [nI_clamp (by omega)]) ?_
  refine lv_aload_n X.1 X.2.1 dL_law_189 rfl (lv_at hl 0 rfl) ?_
  refine lv_iload X.1 X.2.1 dL_law_190 (lv_at hl 4 rfl) ?_
  refine lv_iconst (v := (2 : Int32)) X.1 X.2.1 dL_law_192 (by decide) ?_
  refine lv_iadd X.1 X.2.1 dL_law_193 ?_
  refine lv_name (y := nI (i + 2)) (nI_add i 2) ?_
  refine va_sld X.1 X.2.1 hX hbl hbA w.2.2.2.1 (vp_in_nI (show i + 2 < L by omega) (by omega)) dL_law_194 ?_
  refine lv_name (y := xs (i + 2)) (by rw [nI_clamp (by omega)]) ?_
  refine lv_aload_n X.1 X.2.1 dL_law_195 rfl (lv_at hl 0 rfl) ?_
  refine lv_iload X.1 X.2.1 dL_law_196 (lv_at hl 4 rfl) ?_
  refine lv_iconst (v := (3 : Int32)) X.1 X.2.1 dL_law_198 (by decide) ?_
  refine lv_iadd X.1 X.2.1 dL_law_199 ?_
  refine lv_name (y := nI (i + 3)) (nI_add i 3) ?_
  refine va_sld X.1 X.2.1 hX hbl hbA w.2.2.2.1 (vp_in_nI (show i + 3 < L by omega) (by omega)) dL_law_200 ?_
  refine lv_name (y := xs (i + 3)) (by rw [nI_clamp (by omega)]) ?_
  refine lv_aload_n X.1 X.2.1 dL_law_201 rfl (lv_at hl 0 rfl) ?_
  refine lv_iload X.1 X.2.1 dL_law_202 (lv_at hl 4 rfl) ?_
  refine lv_iconst (v := (4 : Int32)) X.1 X.2.1 dL_law_204 (by decide) ?_
  refine lv_iadd X.1 X.2.1 dL_law_205 ?_
  refine lv_name (y := nI (i + 4)) (nI_add i 4) ?_
  refine va_sld X.1 X.2.1 hX hbl hbA w.2.2.2.1 (vp_in_nI (show i + 4 < L by omega) (by omega)) dL_law_206 ?_
  refine lv_name (y := xs (i + 4)) (by rw [nI_clamp (by omega)]) ?_
  refine lv_aload_n X.1 X.2.1 dL_law_207 rfl (lv_at hl 0 rfl) ?_
  refine lv_iload X.1 X.2.1 dL_law_208 (lv_at hl 4 rfl) ?_
  refine lv_iconst (v := (5 : Int32)) X.1 X.2.1 dL_law_210 (by decide) ?_
  refine lv_iadd X.1 X.2.1 dL_law_211 ?_
  refine lv_name (y := nI (i + 5)) (nI_add i 5) ?_
  refine va_sld X.1 X.2.1 hX hbl hbA w.2.2.2.1 (vp_in_nI (show i + 5 < L by omega) (by omega)) dL_law_212 ?_
  refine lv_name (y := xs (i + 5)) (by rw [nI_clamp (by omega)]) ?_
  refine L_M (As := [.int (xs (i + 1)), .int (xs (i + 2)), .int (xs (i + 3)), .int (xs (i + 4)), .int (xs (i + 5))]) (rest := [.int r]) X w (kX9_entry l D ca ad2 mm (xs (i + 1)) (xs (i + 2)) (xs (i + 3)) (xs (i + 4)) (xs (i + 5)) hm1) (gTV tw_979 tw_980 tw_981 tw_75 tw_982) hdX9_entry ⟨Nat.le_of_ble_eq_true rfl, Nat.le_of_ble_eq_true rfl⟩ rfl hl.1 rfl (Nat.le_of_ble_eq_true rfl) dL_law_213 ⟨by show _ ≤ 601024; omega, by show _ ≤ 7293034; omega⟩ (fun H locs w => ?_)
  refine lv_icmp_eq (tgt := 1137) X.1 X.2.1 dL_law_216 (by decide) (fun _ => ?_) (fun c1 => absurd rfl c1)
  exact kk _ _ _ _ _ _ _ _ _ _ (by omega) (by omega) hrel' w hl
/-- what the pure proof owes for marks -/
def St_marks (Rel : Nat → Nat → Mm → Mm → Prop) : Prop := ∀ (n cap : Nat) (cm mm : Mm) (a1 : Int32) (a2 : Int32) (a3 : Int32), n < 512 → Rel n cap cm mm → ∃ (cm' mm' : Mm) (r : Int32), fX8_marks cm a1 a2 a3 = some (cm', r) ∧ fX9_marks mm a1 a2 a3 = some (mm', r) ∧ Rel (n + 1) cap cm' mm'
set_option maxRecDepth 100000 in
set_option maxHeartbeats 4000000 in
theorem law_marks {p : Program} {l : Launch} {e : Env} {s : State} {m : MethodId} {below : List Frame} {meth : Method} {c : Code} {D : va_G} {ca : Nat → ClassId} {ad1 ad2 : Nat → Nat} {cap q3 : Nat} {cm mm : Mm} {fo : Nat → Int64} {cL : ClassId} {b L : Nat} {xs : Nat → Int32} {i n cells slots : Nat} {H : Heap} {locs : List Loc} {ls : Array Slot} {Q : State → Prop} {Rel : Nat → Nat → Mm → Mm → Prop} (X : CallFix p m c cL_law 7 s #[Value.ref b] TT RL) (hX : va_X b L xs s s.heap) (hbl : b < s.heap.size) (hi : i + 6 ≤ L) (hL : L ≤ 3072) (hSt : St_marks Rel) (hn : n < 512) (hrel : Rel n cap cm mm) (w : LW D ca ad1 cap cm ad2 mm q3 fo cL s H locs) (hl : lv_has ls 7 [(0, .ref b), (1, .ref (ad1 0)), (2, .ref (ad2 0)), (3, .ref q3), (4, .int (nI i))]) (hc : cells + 2 ≤ 601024) (hs : slots + 1024 ≤ 7293034) (kk : ∀ (u : Nat → Nat) (cap' : Nat) (cm' mm' : Mm) (fo' : Nat → Int64) (H : Heap) (locs : List Loc) (ls : Array Slot) (cells' slots' : Nat), cells' ≤ cells + 2 → slots' ≤ slots + 1024 → Rel (n + 1) cap' cm' mm' → LW D ca u cap' cm' ad2 mm' q3 fo' cL s H locs → lv_has ls 7 [(0, .ref b), (1, .ref (u 0)), (2, .ref (ad2 0)), (3, .ref q3), (4, .int (nI i))] → W p l e room_1 s m #[Value.ref b] below meth c H locs cells' slots' Q (F0 m 1137 ls [])) : W p l e room_1 s m #[Value.ref b] below meth c H locs cells slots Q (F0 m 221 ls []) := by
  have hbA : ¬ (fun q : Nat => s.heap.size ≤ q) b := Nat.not_le.mpr hbl
  refine lv_aload_n X.1 X.2.1 dL_law_221 rfl (lv_at hl 1 rfl) ?_
  refine lv_aload_n X.1 X.2.1 dL_law_222 rfl (lv_at hl 0 rfl) ?_
  refine lv_iload X.1 X.2.1 dL_law_223 (lv_at hl 4 rfl) ?_
  refine lv_iconst (v := (1 : Int32)) X.1 X.2.1 dL_law_225 (by decide) ?_
  refine lv_iadd X.1 X.2.1 dL_law_226 ?_
  refine lv_name (y := nI (i + 1)) (nI_add i 1) ?_
  refine va_sld X.1 X.2.1 hX hbl hbA w.2.2.2.1 (vp_in_nI (show i + 1 < L by omega) (by omega)) dL_law_227 ?_
  refine lv_name (y := xs (i + 1)) (by rw [nI_clamp (by omega)]) ?_
  refine lv_aload_n X.1 X.2.1 dL_law_228 rfl (lv_at hl 0 rfl) ?_
  refine lv_iload X.1 X.2.1 dL_law_229 (lv_at hl 4 rfl) ?_
  refine lv_iconst (v := (2 : Int32)) X.1 X.2.1 dL_law_231 (by decide) ?_
  refine lv_iadd X.1 X.2.1 dL_law_232 ?_
  refine lv_name (y := nI (i + 2)) (nI_add i 2) ?_
  refine va_sld X.1 X.2.1 hX hbl hbA w.2.2.2.1 (vp_in_nI (show i + 2 < L by omega) (by omega)) dL_law_233 ?_
  refine lv_name (y := xs (i + 2)) (by rw [nI_clamp (by omega)]) ?_
  refine lv_aload_n X.1 X.2.1 dL_law_234 rfl (lv_at hl 0 rfl) ?_
  refine lv_iload X.1 X.2.1 dL_law_235 (lv_at hl 4 rfl) ?_
  refine lv_iconst (v := (3 : Int32)) X.1 X.2.1 dL_law_237 (by decide) ?_
  refine lv_iadd X.1 X.2.1 dL_law_238 ?_
  refine lv_name (y := nI (i + 3)) (nI_add i 3) ?_
  refine va_sld X.1 X.2.1 hX hbl hbA w.2.2.2.1 (vp_in_nI (show i + 3 < L by omega) (by omega)) dL_law_239 ?_
  refine lv_name (y := xs (i + 3)) (by rw [nI_clamp (by omega)]) ?_
  obtain ⟨cm', mm', r, hc1, hm1, hrel'⟩ := hSt n cap cm mm (xs (i + 1)) (xs (i + 2)) (xs (i + 3)) hn hrel
  refine L_C (As := [.int (xs (i + 1)), .int (xs (i + 2)), .int (xs (i + 3))]) (rest := []) X w (kX8_marks (cap := cap) l D ca ad1 cm (xs (i + 1)) (xs (i + 2)) (xs (i + 3)) hc1) (gTV tw_384 tw_385 tw_386 tw_65 tw_387) hdX8_marks ⟨Nat.le_of_ble_eq_true rfl, Nat.le_of_ble_eq_true rfl⟩ rfl hl.1 rfl (Nat.le_of_ble_eq_true rfl) dL_law_240 ⟨by show _ ≤ 601024; omega, by show _ ≤ 7293034; omega⟩ (fun H locs w => ?_)
  refine lv_aload_n X.1 X.2.1 dL_law_243 rfl (lv_at hl 2 rfl) ?_
  refine lv_aload_n X.1 X.2.1 dL_law_244 rfl (lv_at hl 0 rfl) ?_
  refine lv_iload X.1 X.2.1 dL_law_245 (lv_at hl 4 rfl) ?_
  refine lv_iconst (v := (1 : Int32)) X.1 X.2.1 dL_law_247 (by decide) ?_
  refine lv_iadd X.1 X.2.1 dL_law_248 ?_
  refine lv_name (y := nI (i + 1)) (nI_add i 1) ?_
  refine va_sld X.1 X.2.1 hX hbl hbA w.2.2.2.1 (vp_in_nI (show i + 1 < L by omega) (by omega)) dL_law_249 ?_
  refine lv_name (y := xs (i + 1)) (by rw [nI_clamp (by omega)]) ?_
  refine lv_aload_n X.1 X.2.1 dL_law_250 rfl (lv_at hl 0 rfl) ?_
  refine lv_iload X.1 X.2.1 dL_law_251 (lv_at hl 4 rfl) ?_
  refine lv_iconst (v := (2 : Int32)) X.1 X.2.1 dL_law_253 (by decide) ?_
  refine lv_iadd X.1 X.2.1 dL_law_254 ?_
  refine lv_name (y := nI (i + 2)) (nI_add i 2) ?_
  refine va_sld X.1 X.2.1 hX hbl hbA w.2.2.2.1 (vp_in_nI (show i + 2 < L by omega) (by omega)) dL_law_255 ?_
  refine lv_name (y := xs (i + 2)) (by rw [nI_clamp (by omega)]) ?_
  refine lv_aload_n X.1 X.2.1 dL_law_256 rfl (lv_at hl 0 rfl) ?_
  refine lv_iload X.1 X.2.1 dL_law_257 (lv_at hl 4 rfl) ?_
  refine lv_iconst (v := (3 : Int32)) X.1 X.2.1 dL_law_259 (by decide) ?_
  refine lv_iadd X.1 X.2.1 dL_law_260 ?_
  refine lv_name (y := nI (i + 3)) (nI_add i 3) ?_
  refine va_sld X.1 X.2.1 hX hbl hbA w.2.2.2.1 (vp_in_nI (show i + 3 < L by omega) (by omega)) dL_law_261 ?_
  refine lv_name (y := xs (i + 3)) (by rw [nI_clamp (by omega)]) ?_
  refine L_M (As := [.int (xs (i + 1)), .int (xs (i + 2)), .int (xs (i + 3))]) (rest := [.int r]) X w (kX9_marks l D ca ad2 mm (xs (i + 1)) (xs (i + 2)) (xs (i + 3)) hm1) (gTV tw_996 tw_997 tw_998 tw_75 tw_999) hdX9_marks ⟨Nat.le_of_ble_eq_true rfl, Nat.le_of_ble_eq_true rfl⟩ rfl hl.1 rfl (Nat.le_of_ble_eq_true rfl) dL_law_262 ⟨by show _ ≤ 601024; omega, by show _ ≤ 7293034; omega⟩ (fun H locs w => ?_)
  refine lv_icmp_eq (tgt := 1137) X.1 X.2.1 dL_law_265 (by decide) (fun _ => ?_) (fun c1 => absurd rfl c1)
  exact kk _ _ _ _ _ _ _ _ _ _ (by omega) (by omega) hrel' w hl
/-- what the pure proof owes for root -/
def St_root (Rel : Nat → Nat → Mm → Mm → Prop) : Prop := ∀ (n cap : Nat) (cm mm : Mm) (a1 : Int32) (a2 : Int32), n < 512 → Rel n cap cm mm → ∃ (cm' mm' : Mm) (r : Int32), fX8_root cm a1 a2 = some (cm', r) ∧ fX9_root mm a1 a2 = some (mm', r) ∧ Rel (n + 1) cap cm' mm'
set_option maxRecDepth 100000 in
set_option maxHeartbeats 4000000 in
theorem law_root {p : Program} {l : Launch} {e : Env} {s : State} {m : MethodId} {below : List Frame} {meth : Method} {c : Code} {D : va_G} {ca : Nat → ClassId} {ad1 ad2 : Nat → Nat} {cap q3 : Nat} {cm mm : Mm} {fo : Nat → Int64} {cL : ClassId} {b L : Nat} {xs : Nat → Int32} {i n cells slots : Nat} {H : Heap} {locs : List Loc} {ls : Array Slot} {Q : State → Prop} {Rel : Nat → Nat → Mm → Mm → Prop} (X : CallFix p m c cL_law 7 s #[Value.ref b] TT RL) (hX : va_X b L xs s s.heap) (hbl : b < s.heap.size) (hi : i + 6 ≤ L) (hL : L ≤ 3072) (hSt : St_root Rel) (hn : n < 512) (hrel : Rel n cap cm mm) (w : LW D ca ad1 cap cm ad2 mm q3 fo cL s H locs) (hl : lv_has ls 7 [(0, .ref b), (1, .ref (ad1 0)), (2, .ref (ad2 0)), (3, .ref q3), (4, .int (nI i))]) (hc : cells + 2 ≤ 601024) (hs : slots + 1024 ≤ 7293034) (kk : ∀ (u : Nat → Nat) (cap' : Nat) (cm' mm' : Mm) (fo' : Nat → Int64) (H : Heap) (locs : List Loc) (ls : Array Slot) (cells' slots' : Nat), cells' ≤ cells + 2 → slots' ≤ slots + 1024 → Rel (n + 1) cap' cm' mm' → LW D ca u cap' cm' ad2 mm' q3 fo' cL s H locs → lv_has ls 7 [(0, .ref b), (1, .ref (u 0)), (2, .ref (ad2 0)), (3, .ref q3), (4, .int (nI i))] → W p l e room_1 s m #[Value.ref b] below meth c H locs cells' slots' Q (F0 m 1137 ls [])) : W p l e room_1 s m #[Value.ref b] below meth c H locs cells slots Q (F0 m 270 ls []) := by
  have hbA : ¬ (fun q : Nat => s.heap.size ≤ q) b := Nat.not_le.mpr hbl
  refine lv_aload_n X.1 X.2.1 dL_law_270 rfl (lv_at hl 1 rfl) ?_
  refine lv_aload_n X.1 X.2.1 dL_law_271 rfl (lv_at hl 0 rfl) ?_
  refine lv_iload X.1 X.2.1 dL_law_272 (lv_at hl 4 rfl) ?_
  refine lv_iconst (v := (1 : Int32)) X.1 X.2.1 dL_law_274 (by decide) ?_
  refine lv_iadd X.1 X.2.1 dL_law_275 ?_
  refine lv_name (y := nI (i + 1)) (nI_add i 1) ?_
  refine va_sld X.1 X.2.1 hX hbl hbA w.2.2.2.1 (vp_in_nI (show i + 1 < L by omega) (by omega)) dL_law_276 ?_
  refine lv_name (y := xs (i + 1)) (by rw [nI_clamp (by omega)]) ?_
  refine lv_aload_n X.1 X.2.1 dL_law_277 rfl (lv_at hl 0 rfl) ?_
  refine lv_iload X.1 X.2.1 dL_law_278 (lv_at hl 4 rfl) ?_
  refine lv_iconst (v := (2 : Int32)) X.1 X.2.1 dL_law_280 (by decide) ?_
  refine lv_iadd X.1 X.2.1 dL_law_281 ?_
  refine lv_name (y := nI (i + 2)) (nI_add i 2) ?_
  refine va_sld X.1 X.2.1 hX hbl hbA w.2.2.2.1 (vp_in_nI (show i + 2 < L by omega) (by omega)) dL_law_282 ?_
  refine lv_name (y := xs (i + 2)) (by rw [nI_clamp (by omega)]) ?_
  obtain ⟨cm', mm', r, hc1, hm1, hrel'⟩ := hSt n cap cm mm (xs (i + 1)) (xs (i + 2)) hn hrel
  refine L_C (As := [.int (xs (i + 1)), .int (xs (i + 2))]) (rest := []) X w (kX8_root (cap := cap) l D ca ad1 cm (xs (i + 1)) (xs (i + 2)) hc1) (gTV tw_388 tw_389 tw_390 tw_65 tw_391) hdX8_root ⟨Nat.le_of_ble_eq_true rfl, Nat.le_of_ble_eq_true rfl⟩ rfl hl.1 rfl (Nat.le_of_ble_eq_true rfl) dL_law_283 ⟨by show _ ≤ 601024; omega, by show _ ≤ 7293034; omega⟩ (fun H locs w => ?_)
  refine lv_aload_n X.1 X.2.1 dL_law_286 rfl (lv_at hl 2 rfl) ?_
  refine lv_aload_n X.1 X.2.1 dL_law_287 rfl (lv_at hl 0 rfl) ?_
  refine lv_iload X.1 X.2.1 dL_law_288 (lv_at hl 4 rfl) ?_
  refine lv_iconst (v := (1 : Int32)) X.1 X.2.1 dL_law_290 (by decide) ?_
  refine lv_iadd X.1 X.2.1 dL_law_291 ?_
  refine lv_name (y := nI (i + 1)) (nI_add i 1) ?_
  refine va_sld X.1 X.2.1 hX hbl hbA w.2.2.2.1 (vp_in_nI (show i + 1 < L by omega) (by omega)) dL_law_292 ?_
  refine lv_name (y := xs (i + 1)) (by rw [nI_clamp (by omega)]) ?_
  refine lv_aload_n X.1 X.2.1 dL_law_293 rfl (lv_at hl 0 rfl) ?_
  refine lv_iload X.1 X.2.1 dL_law_294 (lv_at hl 4 rfl) ?_
  refine lv_iconst (v := (2 : Int32)) X.1 X.2.1 dL_law_296 (by decide) ?_
  refine lv_iadd X.1 X.2.1 dL_law_297 ?_
  refine lv_name (y := nI (i + 2)) (nI_add i 2) ?_
  refine va_sld X.1 X.2.1 hX hbl hbA w.2.2.2.1 (vp_in_nI (show i + 2 < L by omega) (by omega)) dL_law_298 ?_
  refine lv_name (y := xs (i + 2)) (by rw [nI_clamp (by omega)]) ?_
  refine L_M (As := [.int (xs (i + 1)), .int (xs (i + 2))]) (rest := [.int r]) X w (kX9_root l D ca ad2 mm (xs (i + 1)) (xs (i + 2)) hm1) (gTV tw_1000 tw_1001 tw_1002 tw_75 tw_1003) hdX9_root ⟨Nat.le_of_ble_eq_true rfl, Nat.le_of_ble_eq_true rfl⟩ rfl hl.1 rfl (Nat.le_of_ble_eq_true rfl) dL_law_299 ⟨by show _ ≤ 601024; omega, by show _ ≤ 7293034; omega⟩ (fun H locs w => ?_)
  refine lv_icmp_eq (tgt := 1137) X.1 X.2.1 dL_law_302 (by decide) (fun _ => ?_) (fun c1 => absurd rfl c1)
  exact kk _ _ _ _ _ _ _ _ _ _ (by omega) (by omega) hrel' w hl
/-- what the pure proof owes for current -/
def St_current (Rel : Nat → Nat → Mm → Mm → Prop) : Prop := ∀ (n cap : Nat) (cm mm : Mm) (a1 : Int32), n < 512 → Rel n cap cm mm → ∃ (cm' mm' : Mm) (r : Int32), fX8_current cm a1 = some (cm', r) ∧ fX9_current mm a1 = some (mm', r) ∧ Rel (n + 1) cap cm' mm'
set_option maxRecDepth 100000 in
set_option maxHeartbeats 4000000 in
theorem law_current {p : Program} {l : Launch} {e : Env} {s : State} {m : MethodId} {below : List Frame} {meth : Method} {c : Code} {D : va_G} {ca : Nat → ClassId} {ad1 ad2 : Nat → Nat} {cap q3 : Nat} {cm mm : Mm} {fo : Nat → Int64} {cL : ClassId} {b L : Nat} {xs : Nat → Int32} {i n cells slots : Nat} {H : Heap} {locs : List Loc} {ls : Array Slot} {Q : State → Prop} {Rel : Nat → Nat → Mm → Mm → Prop} (X : CallFix p m c cL_law 7 s #[Value.ref b] TT RL) (hX : va_X b L xs s s.heap) (hbl : b < s.heap.size) (hi : i + 6 ≤ L) (hL : L ≤ 3072) (hSt : St_current Rel) (hn : n < 512) (hrel : Rel n cap cm mm) (w : LW D ca ad1 cap cm ad2 mm q3 fo cL s H locs) (hl : lv_has ls 7 [(0, .ref b), (1, .ref (ad1 0)), (2, .ref (ad2 0)), (3, .ref q3), (4, .int (nI i))]) (hc : cells + 2 ≤ 601024) (hs : slots + 1024 ≤ 7293034) (kk : ∀ (u : Nat → Nat) (cap' : Nat) (cm' mm' : Mm) (fo' : Nat → Int64) (H : Heap) (locs : List Loc) (ls : Array Slot) (cells' slots' : Nat), cells' ≤ cells + 2 → slots' ≤ slots + 1024 → Rel (n + 1) cap' cm' mm' → LW D ca u cap' cm' ad2 mm' q3 fo' cL s H locs → lv_has ls 7 [(0, .ref b), (1, .ref (u 0)), (2, .ref (ad2 0)), (3, .ref q3), (4, .int (nI i))] → W p l e room_1 s m #[Value.ref b] below meth c H locs cells' slots' Q (F0 m 1137 ls [])) : W p l e room_1 s m #[Value.ref b] below meth c H locs cells slots Q (F0 m 307 ls []) := by
  have hbA : ¬ (fun q : Nat => s.heap.size ≤ q) b := Nat.not_le.mpr hbl
  refine lv_aload_n X.1 X.2.1 dL_law_307 rfl (lv_at hl 1 rfl) ?_
  refine lv_aload_n X.1 X.2.1 dL_law_308 rfl (lv_at hl 0 rfl) ?_
  refine lv_iload X.1 X.2.1 dL_law_309 (lv_at hl 4 rfl) ?_
  refine lv_iconst (v := (1 : Int32)) X.1 X.2.1 dL_law_311 (by decide) ?_
  refine lv_iadd X.1 X.2.1 dL_law_312 ?_
  refine lv_name (y := nI (i + 1)) (nI_add i 1) ?_
  refine va_sld X.1 X.2.1 hX hbl hbA w.2.2.2.1 (vp_in_nI (show i + 1 < L by omega) (by omega)) dL_law_313 ?_
  refine lv_name (y := xs (i + 1)) (by rw [nI_clamp (by omega)]) ?_
  obtain ⟨cm', mm', r, hc1, hm1, hrel'⟩ := hSt n cap cm mm (xs (i + 1)) hn hrel
  refine L_C (As := [.int (xs (i + 1))]) (rest := []) X w (kX8_current (cap := cap) l D ca ad1 cm (xs (i + 1)) hc1) (gTV tw_398 tw_399 tw_400 tw_65 tw_401) hdX8_current ⟨Nat.le_of_ble_eq_true rfl, Nat.le_of_ble_eq_true rfl⟩ rfl hl.1 rfl (Nat.le_of_ble_eq_true rfl) dL_law_314 ⟨by show _ ≤ 601024; omega, by show _ ≤ 7293034; omega⟩ (fun H locs w => ?_)
  refine lv_aload_n X.1 X.2.1 dL_law_317 rfl (lv_at hl 2 rfl) ?_
  refine lv_aload_n X.1 X.2.1 dL_law_318 rfl (lv_at hl 0 rfl) ?_
  refine lv_iload X.1 X.2.1 dL_law_319 (lv_at hl 4 rfl) ?_
  refine lv_iconst (v := (1 : Int32)) X.1 X.2.1 dL_law_321 (by decide) ?_
  refine lv_iadd X.1 X.2.1 dL_law_322 ?_
  refine lv_name (y := nI (i + 1)) (nI_add i 1) ?_
  refine va_sld X.1 X.2.1 hX hbl hbA w.2.2.2.1 (vp_in_nI (show i + 1 < L by omega) (by omega)) dL_law_323 ?_
  refine lv_name (y := xs (i + 1)) (by rw [nI_clamp (by omega)]) ?_
  refine L_M (As := [.int (xs (i + 1))]) (rest := [.int r]) X w (kX9_current l D ca ad2 mm (xs (i + 1)) hm1) (gTV tw_1007 tw_1008 tw_1009 tw_75 tw_1010) hdX9_current ⟨Nat.le_of_ble_eq_true rfl, Nat.le_of_ble_eq_true rfl⟩ rfl hl.1 rfl (Nat.le_of_ble_eq_true rfl) dL_law_324 ⟨by show _ ≤ 601024; omega, by show _ ≤ 7293034; omega⟩ (fun H locs w => ?_)
  refine lv_icmp_eq (tgt := 1137) X.1 X.2.1 dL_law_327 (by decide) (fun _ => ?_) (fun c1 => absurd rfl c1)
  exact kk _ _ _ _ _ _ _ _ _ _ (by omega) (by omega) hrel' w hl
/-- what the pure proof owes for access -/
def St_access (Rel : Nat → Nat → Mm → Mm → Prop) : Prop := ∀ (n cap : Nat) (cm mm : Mm) (a1 : Int32) (a2 : Int32), n < 512 → Rel n cap cm mm → ∃ (cm' mm' : Mm) (r : Int32), fX8_access cm a1 a2 = some (cm', r) ∧ fX9_access mm a1 a2 = some (mm', r) ∧ Rel (n + 1) cap cm' mm'
set_option maxRecDepth 100000 in
set_option maxHeartbeats 4000000 in
theorem law_access {p : Program} {l : Launch} {e : Env} {s : State} {m : MethodId} {below : List Frame} {meth : Method} {c : Code} {D : va_G} {ca : Nat → ClassId} {ad1 ad2 : Nat → Nat} {cap q3 : Nat} {cm mm : Mm} {fo : Nat → Int64} {cL : ClassId} {b L : Nat} {xs : Nat → Int32} {i n cells slots : Nat} {H : Heap} {locs : List Loc} {ls : Array Slot} {Q : State → Prop} {Rel : Nat → Nat → Mm → Mm → Prop} (X : CallFix p m c cL_law 7 s #[Value.ref b] TT RL) (hX : va_X b L xs s s.heap) (hbl : b < s.heap.size) (hi : i + 6 ≤ L) (hL : L ≤ 3072) (hSt : St_access Rel) (hn : n < 512) (hrel : Rel n cap cm mm) (w : LW D ca ad1 cap cm ad2 mm q3 fo cL s H locs) (hl : lv_has ls 7 [(0, .ref b), (1, .ref (ad1 0)), (2, .ref (ad2 0)), (3, .ref q3), (4, .int (nI i))]) (hc : cells + 2 ≤ 601024) (hs : slots + 1024 ≤ 7293034) (kk : ∀ (u : Nat → Nat) (cap' : Nat) (cm' mm' : Mm) (fo' : Nat → Int64) (H : Heap) (locs : List Loc) (ls : Array Slot) (cells' slots' : Nat), cells' ≤ cells + 2 → slots' ≤ slots + 1024 → Rel (n + 1) cap' cm' mm' → LW D ca u cap' cm' ad2 mm' q3 fo' cL s H locs → lv_has ls 7 [(0, .ref b), (1, .ref (u 0)), (2, .ref (ad2 0)), (3, .ref q3), (4, .int (nI i))] → W p l e room_1 s m #[Value.ref b] below meth c H locs cells' slots' Q (F0 m 1137 ls [])) : W p l e room_1 s m #[Value.ref b] below meth c H locs cells slots Q (F0 m 332 ls []) := by
  have hbA : ¬ (fun q : Nat => s.heap.size ≤ q) b := Nat.not_le.mpr hbl
  refine lv_aload_n X.1 X.2.1 dL_law_332 rfl (lv_at hl 1 rfl) ?_
  refine lv_aload_n X.1 X.2.1 dL_law_333 rfl (lv_at hl 0 rfl) ?_
  refine lv_iload X.1 X.2.1 dL_law_334 (lv_at hl 4 rfl) ?_
  refine lv_iconst (v := (1 : Int32)) X.1 X.2.1 dL_law_336 (by decide) ?_
  refine lv_iadd X.1 X.2.1 dL_law_337 ?_
  refine lv_name (y := nI (i + 1)) (nI_add i 1) ?_
  refine va_sld X.1 X.2.1 hX hbl hbA w.2.2.2.1 (vp_in_nI (show i + 1 < L by omega) (by omega)) dL_law_338 ?_
  refine lv_name (y := xs (i + 1)) (by rw [nI_clamp (by omega)]) ?_
  refine lv_aload_n X.1 X.2.1 dL_law_339 rfl (lv_at hl 0 rfl) ?_
  refine lv_iload X.1 X.2.1 dL_law_340 (lv_at hl 4 rfl) ?_
  refine lv_iconst (v := (2 : Int32)) X.1 X.2.1 dL_law_342 (by decide) ?_
  refine lv_iadd X.1 X.2.1 dL_law_343 ?_
  refine lv_name (y := nI (i + 2)) (nI_add i 2) ?_
  refine va_sld X.1 X.2.1 hX hbl hbA w.2.2.2.1 (vp_in_nI (show i + 2 < L by omega) (by omega)) dL_law_344 ?_
  refine lv_name (y := xs (i + 2)) (by rw [nI_clamp (by omega)]) ?_
  obtain ⟨cm', mm', r, hc1, hm1, hrel'⟩ := hSt n cap cm mm (xs (i + 1)) (xs (i + 2)) hn hrel
  refine L_C (As := [.int (xs (i + 1)), .int (xs (i + 2))]) (rest := []) X w (kX8_access (cap := cap) l D ca ad1 cm (xs (i + 1)) (xs (i + 2)) hc1) (gTV tw_438 tw_439 tw_440 tw_65 tw_441) hdX8_access ⟨Nat.le_of_ble_eq_true rfl, Nat.le_of_ble_eq_true rfl⟩ rfl hl.1 rfl (Nat.le_of_ble_eq_true rfl) dL_law_345 ⟨by show _ ≤ 601024; omega, by show _ ≤ 7293034; omega⟩ (fun H locs w => ?_)
  refine lv_aload_n X.1 X.2.1 dL_law_348 rfl (lv_at hl 2 rfl) ?_
  refine lv_aload_n X.1 X.2.1 dL_law_349 rfl (lv_at hl 0 rfl) ?_
  refine lv_iload X.1 X.2.1 dL_law_350 (lv_at hl 4 rfl) ?_
  refine lv_iconst (v := (1 : Int32)) X.1 X.2.1 dL_law_352 (by decide) ?_
  refine lv_iadd X.1 X.2.1 dL_law_353 ?_
  refine lv_name (y := nI (i + 1)) (nI_add i 1) ?_
  refine va_sld X.1 X.2.1 hX hbl hbA w.2.2.2.1 (vp_in_nI (show i + 1 < L by omega) (by omega)) dL_law_354 ?_
  refine lv_name (y := xs (i + 1)) (by rw [nI_clamp (by omega)]) ?_
  refine lv_aload_n X.1 X.2.1 dL_law_355 rfl (lv_at hl 0 rfl) ?_
  refine lv_iload X.1 X.2.1 dL_law_356 (lv_at hl 4 rfl) ?_
  refine lv_iconst (v := (2 : Int32)) X.1 X.2.1 dL_law_358 (by decide) ?_
  refine lv_iadd X.1 X.2.1 dL_law_359 ?_
  refine lv_name (y := nI (i + 2)) (nI_add i 2) ?_
  refine va_sld X.1 X.2.1 hX hbl hbA w.2.2.2.1 (vp_in_nI (show i + 2 < L by omega) (by omega)) dL_law_360 ?_
  refine lv_name (y := xs (i + 2)) (by rw [nI_clamp (by omega)]) ?_
  refine L_M (As := [.int (xs (i + 1)), .int (xs (i + 2))]) (rest := [.int r]) X w (kX9_access l D ca ad2 mm (xs (i + 1)) (xs (i + 2)) hm1) (gTV tw_1035 tw_1036 tw_1037 tw_75 tw_1038) hdX9_access ⟨Nat.le_of_ble_eq_true rfl, Nat.le_of_ble_eq_true rfl⟩ rfl hl.1 rfl (Nat.le_of_ble_eq_true rfl) dL_law_361 ⟨by show _ ≤ 601024; omega, by show _ ≤ 7293034; omega⟩ (fun H locs w => ?_)
  refine lv_icmp_eq (tgt := 1137) X.1 X.2.1 dL_law_364 (by decide) (fun _ => ?_) (fun c1 => absurd rfl c1)
  exact kk _ _ _ _ _ _ _ _ _ _ (by omega) (by omega) hrel' w hl
/-- what the pure proof owes for would -/
def St_would (Rel : Nat → Nat → Mm → Mm → Prop) : Prop := ∀ (n cap : Nat) (cm mm : Mm) (a1 : Int32) (a2 : Int32), n < 512 → Rel n cap cm mm → ∃ (cm' mm' : Mm) (r : Int32), fX8_would cm a1 a2 = some (cm', r) ∧ fX9_would mm a1 a2 = some (mm', r) ∧ Rel (n + 1) cap cm' mm'
set_option maxRecDepth 100000 in
set_option maxHeartbeats 4000000 in
theorem law_would {p : Program} {l : Launch} {e : Env} {s : State} {m : MethodId} {below : List Frame} {meth : Method} {c : Code} {D : va_G} {ca : Nat → ClassId} {ad1 ad2 : Nat → Nat} {cap q3 : Nat} {cm mm : Mm} {fo : Nat → Int64} {cL : ClassId} {b L : Nat} {xs : Nat → Int32} {i n cells slots : Nat} {H : Heap} {locs : List Loc} {ls : Array Slot} {Q : State → Prop} {Rel : Nat → Nat → Mm → Mm → Prop} (X : CallFix p m c cL_law 7 s #[Value.ref b] TT RL) (hX : va_X b L xs s s.heap) (hbl : b < s.heap.size) (hi : i + 6 ≤ L) (hL : L ≤ 3072) (hSt : St_would Rel) (hn : n < 512) (hrel : Rel n cap cm mm) (w : LW D ca ad1 cap cm ad2 mm q3 fo cL s H locs) (hl : lv_has ls 7 [(0, .ref b), (1, .ref (ad1 0)), (2, .ref (ad2 0)), (3, .ref q3), (4, .int (nI i))]) (hc : cells + 2 ≤ 601024) (hs : slots + 1024 ≤ 7293034) (kk : ∀ (u : Nat → Nat) (cap' : Nat) (cm' mm' : Mm) (fo' : Nat → Int64) (H : Heap) (locs : List Loc) (ls : Array Slot) (cells' slots' : Nat), cells' ≤ cells + 2 → slots' ≤ slots + 1024 → Rel (n + 1) cap' cm' mm' → LW D ca u cap' cm' ad2 mm' q3 fo' cL s H locs → lv_has ls 7 [(0, .ref b), (1, .ref (u 0)), (2, .ref (ad2 0)), (3, .ref q3), (4, .int (nI i))] → W p l e room_1 s m #[Value.ref b] below meth c H locs cells' slots' Q (F0 m 1137 ls [])) : W p l e room_1 s m #[Value.ref b] below meth c H locs cells slots Q (F0 m 369 ls []) := by
  have hbA : ¬ (fun q : Nat => s.heap.size ≤ q) b := Nat.not_le.mpr hbl
  refine lv_aload_n X.1 X.2.1 dL_law_369 rfl (lv_at hl 1 rfl) ?_
  refine lv_aload_n X.1 X.2.1 dL_law_370 rfl (lv_at hl 0 rfl) ?_
  refine lv_iload X.1 X.2.1 dL_law_371 (lv_at hl 4 rfl) ?_
  refine lv_iconst (v := (1 : Int32)) X.1 X.2.1 dL_law_373 (by decide) ?_
  refine lv_iadd X.1 X.2.1 dL_law_374 ?_
  refine lv_name (y := nI (i + 1)) (nI_add i 1) ?_
  refine va_sld X.1 X.2.1 hX hbl hbA w.2.2.2.1 (vp_in_nI (show i + 1 < L by omega) (by omega)) dL_law_375 ?_
  refine lv_name (y := xs (i + 1)) (by rw [nI_clamp (by omega)]) ?_
  refine lv_aload_n X.1 X.2.1 dL_law_376 rfl (lv_at hl 0 rfl) ?_
  refine lv_iload X.1 X.2.1 dL_law_377 (lv_at hl 4 rfl) ?_
  refine lv_iconst (v := (2 : Int32)) X.1 X.2.1 dL_law_379 (by decide) ?_
  refine lv_iadd X.1 X.2.1 dL_law_380 ?_
  refine lv_name (y := nI (i + 2)) (nI_add i 2) ?_
  refine va_sld X.1 X.2.1 hX hbl hbA w.2.2.2.1 (vp_in_nI (show i + 2 < L by omega) (by omega)) dL_law_381 ?_
  refine lv_name (y := xs (i + 2)) (by rw [nI_clamp (by omega)]) ?_
  obtain ⟨cm', mm', r, hc1, hm1, hrel'⟩ := hSt n cap cm mm (xs (i + 1)) (xs (i + 2)) hn hrel
  refine L_C (As := [.int (xs (i + 1)), .int (xs (i + 2))]) (rest := []) X w (kX8_would (cap := cap) l D ca ad1 cm (xs (i + 1)) (xs (i + 2)) hc1) (gTV tw_576 tw_577 tw_578 tw_65 tw_579) hdX8_would ⟨Nat.le_of_ble_eq_true rfl, Nat.le_of_ble_eq_true rfl⟩ rfl hl.1 rfl (Nat.le_of_ble_eq_true rfl) dL_law_382 ⟨by show _ ≤ 601024; omega, by show _ ≤ 7293034; omega⟩ (fun H locs w => ?_)
  refine lv_aload_n X.1 X.2.1 dL_law_385 rfl (lv_at hl 2 rfl) ?_
  refine lv_aload_n X.1 X.2.1 dL_law_386 rfl (lv_at hl 0 rfl) ?_
  refine lv_iload X.1 X.2.1 dL_law_387 (lv_at hl 4 rfl) ?_
  refine lv_iconst (v := (1 : Int32)) X.1 X.2.1 dL_law_389 (by decide) ?_
  refine lv_iadd X.1 X.2.1 dL_law_390 ?_
  refine lv_name (y := nI (i + 1)) (nI_add i 1) ?_
  refine va_sld X.1 X.2.1 hX hbl hbA w.2.2.2.1 (vp_in_nI (show i + 1 < L by omega) (by omega)) dL_law_391 ?_
  refine lv_name (y := xs (i + 1)) (by rw [nI_clamp (by omega)]) ?_
  refine lv_aload_n X.1 X.2.1 dL_law_392 rfl (lv_at hl 0 rfl) ?_
  refine lv_iload X.1 X.2.1 dL_law_393 (lv_at hl 4 rfl) ?_
  refine lv_iconst (v := (2 : Int32)) X.1 X.2.1 dL_law_395 (by decide) ?_
  refine lv_iadd X.1 X.2.1 dL_law_396 ?_
  refine lv_name (y := nI (i + 2)) (nI_add i 2) ?_
  refine va_sld X.1 X.2.1 hX hbl hbA w.2.2.2.1 (vp_in_nI (show i + 2 < L by omega) (by omega)) dL_law_397 ?_
  refine lv_name (y := xs (i + 2)) (by rw [nI_clamp (by omega)]) ?_
  refine L_M (As := [.int (xs (i + 1)), .int (xs (i + 2))]) (rest := [.int r]) X w (kX9_would l D ca ad2 mm (xs (i + 1)) (xs (i + 2)) hm1) (gTV tw_1098 tw_1099 tw_1100 tw_75 tw_1101) hdX9_would ⟨Nat.le_of_ble_eq_true rfl, Nat.le_of_ble_eq_true rfl⟩ rfl hl.1 rfl (Nat.le_of_ble_eq_true rfl) dL_law_398 ⟨by show _ ≤ 601024; omega, by show _ ≤ 7293034; omega⟩ (fun H locs w => ?_)
  refine lv_icmp_eq (tgt := 1137) X.1 X.2.1 dL_law_401 (by decide) (fun _ => ?_) (fun c1 => absurd rfl c1)
  exact kk _ _ _ _ _ _ _ _ _ _ (by omega) (by omega) hrel' w hl
/-- what the pure proof owes for steps -/
def St_steps (Rel : Nat → Nat → Mm → Mm → Prop) : Prop := ∀ (n cap : Nat) (cm mm : Mm) (a1 : Int32) (a2 : Int32), n < 512 → Rel n cap cm mm → ∃ (cm' mm' : Mm) (r : Int32), fX8_steps cm a1 a2 = some (cm', r) ∧ fX9_steps mm a1 a2 = some (mm', r) ∧ Rel (n + 1) cap cm' mm'
set_option maxRecDepth 100000 in
set_option maxHeartbeats 4000000 in
theorem law_steps {p : Program} {l : Launch} {e : Env} {s : State} {m : MethodId} {below : List Frame} {meth : Method} {c : Code} {D : va_G} {ca : Nat → ClassId} {ad1 ad2 : Nat → Nat} {cap q3 : Nat} {cm mm : Mm} {fo : Nat → Int64} {cL : ClassId} {b L : Nat} {xs : Nat → Int32} {i n cells slots : Nat} {H : Heap} {locs : List Loc} {ls : Array Slot} {Q : State → Prop} {Rel : Nat → Nat → Mm → Mm → Prop} (X : CallFix p m c cL_law 7 s #[Value.ref b] TT RL) (hX : va_X b L xs s s.heap) (hbl : b < s.heap.size) (hi : i + 6 ≤ L) (hL : L ≤ 3072) (hSt : St_steps Rel) (hn : n < 512) (hrel : Rel n cap cm mm) (w : LW D ca ad1 cap cm ad2 mm q3 fo cL s H locs) (hl : lv_has ls 7 [(0, .ref b), (1, .ref (ad1 0)), (2, .ref (ad2 0)), (3, .ref q3), (4, .int (nI i))]) (hc : cells + 2 ≤ 601024) (hs : slots + 1024 ≤ 7293034) (kk : ∀ (u : Nat → Nat) (cap' : Nat) (cm' mm' : Mm) (fo' : Nat → Int64) (H : Heap) (locs : List Loc) (ls : Array Slot) (cells' slots' : Nat), cells' ≤ cells + 2 → slots' ≤ slots + 1024 → Rel (n + 1) cap' cm' mm' → LW D ca u cap' cm' ad2 mm' q3 fo' cL s H locs → lv_has ls 7 [(0, .ref b), (1, .ref (u 0)), (2, .ref (ad2 0)), (3, .ref q3), (4, .int (nI i))] → W p l e room_1 s m #[Value.ref b] below meth c H locs cells' slots' Q (F0 m 1137 ls [])) : W p l e room_1 s m #[Value.ref b] below meth c H locs cells slots Q (F0 m 406 ls []) := by
  have hbA : ¬ (fun q : Nat => s.heap.size ≤ q) b := Nat.not_le.mpr hbl
  refine lv_aload_n X.1 X.2.1 dL_law_406 rfl (lv_at hl 1 rfl) ?_
  refine lv_aload_n X.1 X.2.1 dL_law_407 rfl (lv_at hl 0 rfl) ?_
  refine lv_iload X.1 X.2.1 dL_law_408 (lv_at hl 4 rfl) ?_
  refine lv_iconst (v := (1 : Int32)) X.1 X.2.1 dL_law_410 (by decide) ?_
  refine lv_iadd X.1 X.2.1 dL_law_411 ?_
  refine lv_name (y := nI (i + 1)) (nI_add i 1) ?_
  refine va_sld X.1 X.2.1 hX hbl hbA w.2.2.2.1 (vp_in_nI (show i + 1 < L by omega) (by omega)) dL_law_412 ?_
  refine lv_name (y := xs (i + 1)) (by rw [nI_clamp (by omega)]) ?_
  refine lv_aload_n X.1 X.2.1 dL_law_413 rfl (lv_at hl 0 rfl) ?_
  refine lv_iload X.1 X.2.1 dL_law_414 (lv_at hl 4 rfl) ?_
  refine lv_iconst (v := (2 : Int32)) X.1 X.2.1 dL_law_416 (by decide) ?_
  refine lv_iadd X.1 X.2.1 dL_law_417 ?_
  refine lv_name (y := nI (i + 2)) (nI_add i 2) ?_
  refine va_sld X.1 X.2.1 hX hbl hbA w.2.2.2.1 (vp_in_nI (show i + 2 < L by omega) (by omega)) dL_law_418 ?_
  refine lv_name (y := xs (i + 2)) (by rw [nI_clamp (by omega)]) ?_
  obtain ⟨cm', mm', r, hc1, hm1, hrel'⟩ := hSt n cap cm mm (xs (i + 1)) (xs (i + 2)) hn hrel
  refine L_C (As := [.int (xs (i + 1)), .int (xs (i + 2))]) (rest := []) X w (kX8_steps (cap := cap) l D ca ad1 cm (xs (i + 1)) (xs (i + 2)) hc1) (gTV tw_584 tw_585 tw_586 tw_65 tw_587) hdX8_steps ⟨Nat.le_of_ble_eq_true rfl, Nat.le_of_ble_eq_true rfl⟩ rfl hl.1 rfl (Nat.le_of_ble_eq_true rfl) dL_law_419 ⟨by show _ ≤ 601024; omega, by show _ ≤ 7293034; omega⟩ (fun H locs w => ?_)
  refine lv_aload_n X.1 X.2.1 dL_law_422 rfl (lv_at hl 2 rfl) ?_
  refine lv_aload_n X.1 X.2.1 dL_law_423 rfl (lv_at hl 0 rfl) ?_
  refine lv_iload X.1 X.2.1 dL_law_424 (lv_at hl 4 rfl) ?_
  refine lv_iconst (v := (1 : Int32)) X.1 X.2.1 dL_law_426 (by decide) ?_
  refine lv_iadd X.1 X.2.1 dL_law_427 ?_
  refine lv_name (y := nI (i + 1)) (nI_add i 1) ?_
  refine va_sld X.1 X.2.1 hX hbl hbA w.2.2.2.1 (vp_in_nI (show i + 1 < L by omega) (by omega)) dL_law_428 ?_
  refine lv_name (y := xs (i + 1)) (by rw [nI_clamp (by omega)]) ?_
  refine lv_aload_n X.1 X.2.1 dL_law_429 rfl (lv_at hl 0 rfl) ?_
  refine lv_iload X.1 X.2.1 dL_law_430 (lv_at hl 4 rfl) ?_
  refine lv_iconst (v := (2 : Int32)) X.1 X.2.1 dL_law_432 (by decide) ?_
  refine lv_iadd X.1 X.2.1 dL_law_433 ?_
  refine lv_name (y := nI (i + 2)) (nI_add i 2) ?_
  refine va_sld X.1 X.2.1 hX hbl hbA w.2.2.2.1 (vp_in_nI (show i + 2 < L by omega) (by omega)) dL_law_434 ?_
  refine lv_name (y := xs (i + 2)) (by rw [nI_clamp (by omega)]) ?_
  refine L_M (As := [.int (xs (i + 1)), .int (xs (i + 2))]) (rest := [.int r]) X w (kX9_steps l D ca ad2 mm (xs (i + 1)) (xs (i + 2)) hm1) (gTV tw_1106 tw_1107 tw_1108 tw_75 tw_1109) hdX9_steps ⟨Nat.le_of_ble_eq_true rfl, Nat.le_of_ble_eq_true rfl⟩ rfl hl.1 rfl (Nat.le_of_ble_eq_true rfl) dL_law_435 ⟨by show _ ≤ 601024; omega, by show _ ≤ 7293034; omega⟩ (fun H locs w => ?_)
  refine lv_icmp_eq (tgt := 1137) X.1 X.2.1 dL_law_438 (by decide) (fun _ => ?_) (fun c1 => absurd rfl c1)
  exact kk _ _ _ _ _ _ _ _ _ _ (by omega) (by omega) hrel' w hl
/-- what the pure proof owes for begin -/
def St_begin (Rel : Nat → Nat → Mm → Mm → Prop) : Prop := ∀ (n cap : Nat) (cm mm : Mm) (a1 : Int32) (a2 : Int32) (a3 : Int32) (a4 : Int32), n < 512 → Rel n cap cm mm → (a4 = 0 ∨ a4 = 1) → ∃ (cm' mm' : Mm) (r : Int32), fX8_begin cm a1 a2 a3 a4 = some (cm', r) ∧ fX9_begin mm a1 a2 a3 a4 = some (mm', r) ∧ Rel (n + 1) cap cm' mm'
set_option maxRecDepth 100000 in
set_option maxHeartbeats 4000000 in
theorem law_begin {p : Program} {l : Launch} {e : Env} {s : State} {m : MethodId} {below : List Frame} {meth : Method} {c : Code} {D : va_G} {ca : Nat → ClassId} {ad1 ad2 : Nat → Nat} {cap q3 : Nat} {cm mm : Mm} {fo : Nat → Int64} {cL : ClassId} {b L : Nat} {xs : Nat → Int32} {i n cells slots : Nat} {H : Heap} {locs : List Loc} {ls : Array Slot} {Q : State → Prop} {Rel : Nat → Nat → Mm → Mm → Prop} (X : CallFix p m c cL_law 7 s #[Value.ref b] TT RL) (hX : va_X b L xs s s.heap) (hbl : b < s.heap.size) (hi : i + 6 ≤ L) (hL : L ≤ 3072) (hSt : St_begin Rel) (hn : n < 512) (hrel : Rel n cap cm mm) (w : LW D ca ad1 cap cm ad2 mm q3 fo cL s H locs) (hl : lv_has ls 7 [(0, .ref b), (1, .ref (ad1 0)), (2, .ref (ad2 0)), (3, .ref q3), (4, .int (nI i))]) (hc : cells + 2 ≤ 601024) (hs : slots + 1024 ≤ 7293034) (kk : ∀ (u : Nat → Nat) (cap' : Nat) (cm' mm' : Mm) (fo' : Nat → Int64) (H : Heap) (locs : List Loc) (ls : Array Slot) (cells' slots' : Nat), cells' ≤ cells + 2 → slots' ≤ slots + 1024 → Rel (n + 1) cap' cm' mm' → LW D ca u cap' cm' ad2 mm' q3 fo' cL s H locs → lv_has ls 7 [(0, .ref b), (1, .ref (u 0)), (2, .ref (ad2 0)), (3, .ref q3), (4, .int (nI i))] → W p l e room_1 s m #[Value.ref b] below meth c H locs cells' slots' Q (F0 m 1137 ls [])) : W p l e room_1 s m #[Value.ref b] below meth c H locs cells slots Q (F0 m 443 ls []) := by
  have hbA : ¬ (fun q : Nat => s.heap.size ≤ q) b := Nat.not_le.mpr hbl
  refine lv_aload_n X.1 X.2.1 dL_law_443 rfl (lv_at hl 1 rfl) ?_
  refine lv_aload_n X.1 X.2.1 dL_law_444 rfl (lv_at hl 0 rfl) ?_
  refine lv_iload X.1 X.2.1 dL_law_445 (lv_at hl 4 rfl) ?_
  refine lv_iconst (v := (1 : Int32)) X.1 X.2.1 dL_law_447 (by decide) ?_
  refine lv_iadd X.1 X.2.1 dL_law_448 ?_
  refine lv_name (y := nI (i + 1)) (nI_add i 1) ?_
  refine va_sld X.1 X.2.1 hX hbl hbA w.2.2.2.1 (vp_in_nI (show i + 1 < L by omega) (by omega)) dL_law_449 ?_
  refine lv_name (y := xs (i + 1)) (by rw [nI_clamp (by omega)]) ?_
  refine lv_aload_n X.1 X.2.1 dL_law_450 rfl (lv_at hl 0 rfl) ?_
  refine lv_iload X.1 X.2.1 dL_law_451 (lv_at hl 4 rfl) ?_
  refine lv_iconst (v := (2 : Int32)) X.1 X.2.1 dL_law_453 (by decide) ?_
  refine lv_iadd X.1 X.2.1 dL_law_454 ?_
  refine lv_name (y := nI (i + 2)) (nI_add i 2) ?_
  refine va_sld X.1 X.2.1 hX hbl hbA w.2.2.2.1 (vp_in_nI (show i + 2 < L by omega) (by omega)) dL_law_455 ?_
  refine lv_name (y := xs (i + 2)) (by rw [nI_clamp (by omega)]) ?_
  refine lv_aload_n X.1 X.2.1 dL_law_456 rfl (lv_at hl 0 rfl) ?_
  refine lv_iload X.1 X.2.1 dL_law_457 (lv_at hl 4 rfl) ?_
  refine lv_iconst (v := (3 : Int32)) X.1 X.2.1 dL_law_459 (by decide) ?_
  refine lv_iadd X.1 X.2.1 dL_law_460 ?_
  refine lv_name (y := nI (i + 3)) (nI_add i 3) ?_
  refine va_sld X.1 X.2.1 hX hbl hbA w.2.2.2.1 (vp_in_nI (show i + 3 < L by omega) (by omega)) dL_law_461 ?_
  refine lv_name (y := xs (i + 3)) (by rw [nI_clamp (by omega)]) ?_
  refine lv_aload_n X.1 X.2.1 dL_law_462 rfl (lv_at hl 0 rfl) ?_
  refine lv_iload X.1 X.2.1 dL_law_463 (lv_at hl 4 rfl) ?_
  refine lv_iconst (v := (4 : Int32)) X.1 X.2.1 dL_law_465 (by decide) ?_
  refine lv_iadd X.1 X.2.1 dL_law_466 ?_
  refine lv_name (y := nI (i + 4)) (nI_add i 4) ?_
  refine va_sld X.1 X.2.1 hX hbl hbA w.2.2.2.1 (vp_in_nI (show i + 4 < L by omega) (by omega)) dL_law_467 ?_
  refine lv_name (y := xs (i + 4)) (by rw [nI_clamp (by omega)]) ?_
  by_cases c0 : (xs (i + 4)) = 0
  · skip
    refine lv_if_eq (tgt := 475) X.1 X.2.1 dL_law_468 (by decide) (fun _ => ?_) (fun c1 => absurd c0 c1)
    refine lv_iconst (v := (0 : Int32)) X.1 X.2.1 dL_law_475 (by decide) ?_
    obtain ⟨cm', mm', r, hc1, hm1, hrel'⟩ := hSt n cap cm mm (xs (i + 1)) (xs (i + 2)) (xs (i + 3)) (0 : Int32) hn hrel (Or.inl rfl)
    refine L_C (As := [.int (xs (i + 1)), .int (xs (i + 2)), .int (xs (i + 3)), .int (0 : Int32)]) (rest := []) X w (kX8_begin (cap := cap) l D ca ad1 cm (xs (i + 1)) (xs (i + 2)) (xs (i + 3)) (0 : Int32) hc1) (gTV tw_588 tw_589 tw_590 tw_65 tw_591) hdX8_begin ⟨Nat.le_of_ble_eq_true rfl, Nat.le_of_ble_eq_true rfl⟩ rfl hl.1 rfl (Nat.le_of_ble_eq_true rfl) dL_law_476 ⟨by show _ ≤ 601024; omega, by show _ ≤ 7293034; omega⟩ (fun H locs w => ?_)
    refine lv_aload_n X.1 X.2.1 dL_law_479 rfl (lv_at hl 2 rfl) ?_
    refine lv_aload_n X.1 X.2.1 dL_law_480 rfl (lv_at hl 0 rfl) ?_
    refine lv_iload X.1 X.2.1 dL_law_481 (lv_at hl 4 rfl) ?_
    refine lv_iconst (v := (1 : Int32)) X.1 X.2.1 dL_law_483 (by decide) ?_
    refine lv_iadd X.1 X.2.1 dL_law_484 ?_
    refine lv_name (y := nI (i + 1)) (nI_add i 1) ?_
    refine va_sld X.1 X.2.1 hX hbl hbA w.2.2.2.1 (vp_in_nI (show i + 1 < L by omega) (by omega)) dL_law_485 ?_
    refine lv_name (y := xs (i + 1)) (by rw [nI_clamp (by omega)]) ?_
    refine lv_aload_n X.1 X.2.1 dL_law_486 rfl (lv_at hl 0 rfl) ?_
    refine lv_iload X.1 X.2.1 dL_law_487 (lv_at hl 4 rfl) ?_
    refine lv_iconst (v := (2 : Int32)) X.1 X.2.1 dL_law_489 (by decide) ?_
    refine lv_iadd X.1 X.2.1 dL_law_490 ?_
    refine lv_name (y := nI (i + 2)) (nI_add i 2) ?_
    refine va_sld X.1 X.2.1 hX hbl hbA w.2.2.2.1 (vp_in_nI (show i + 2 < L by omega) (by omega)) dL_law_491 ?_
    refine lv_name (y := xs (i + 2)) (by rw [nI_clamp (by omega)]) ?_
    refine lv_aload_n X.1 X.2.1 dL_law_492 rfl (lv_at hl 0 rfl) ?_
    refine lv_iload X.1 X.2.1 dL_law_493 (lv_at hl 4 rfl) ?_
    refine lv_iconst (v := (3 : Int32)) X.1 X.2.1 dL_law_495 (by decide) ?_
    refine lv_iadd X.1 X.2.1 dL_law_496 ?_
    refine lv_name (y := nI (i + 3)) (nI_add i 3) ?_
    refine va_sld X.1 X.2.1 hX hbl hbA w.2.2.2.1 (vp_in_nI (show i + 3 < L by omega) (by omega)) dL_law_497 ?_
    refine lv_name (y := xs (i + 3)) (by rw [nI_clamp (by omega)]) ?_
    refine lv_aload_n X.1 X.2.1 dL_law_498 rfl (lv_at hl 0 rfl) ?_
    refine lv_iload X.1 X.2.1 dL_law_499 (lv_at hl 4 rfl) ?_
    refine lv_iconst (v := (4 : Int32)) X.1 X.2.1 dL_law_501 (by decide) ?_
    refine lv_iadd X.1 X.2.1 dL_law_502 ?_
    refine lv_name (y := nI (i + 4)) (nI_add i 4) ?_
    refine va_sld X.1 X.2.1 hX hbl hbA w.2.2.2.1 (vp_in_nI (show i + 4 < L by omega) (by omega)) dL_law_503 ?_
    refine lv_name (y := xs (i + 4)) (by rw [nI_clamp (by omega)]) ?_
    refine lv_if_eq (tgt := 511) X.1 X.2.1 dL_law_504 (by decide) (fun _ => ?_) (fun c1 => absurd c0 c1)
    refine lv_iconst (v := (0 : Int32)) X.1 X.2.1 dL_law_511 (by decide) ?_
    refine L_M (As := [.int (xs (i + 1)), .int (xs (i + 2)), .int (xs (i + 3)), .int (0 : Int32)]) (rest := [.int r]) X w (kX9_begin l D ca ad2 mm (xs (i + 1)) (xs (i + 2)) (xs (i + 3)) (0 : Int32) hm1) (gTV tw_1110 tw_1111 tw_1112 tw_75 tw_1113) hdX9_begin ⟨Nat.le_of_ble_eq_true rfl, Nat.le_of_ble_eq_true rfl⟩ rfl hl.1 rfl (Nat.le_of_ble_eq_true rfl) dL_law_512 ⟨by show _ ≤ 601024; omega, by show _ ≤ 7293034; omega⟩ (fun H locs w => ?_)
    refine lv_icmp_eq (tgt := 1137) X.1 X.2.1 dL_law_515 (by decide) (fun _ => ?_) (fun c1 => absurd rfl c1)
    exact kk _ _ _ _ _ _ _ _ _ _ (by omega) (by omega) hrel' w hl
  · skip
    refine lv_if_eq (tgt := 475) X.1 X.2.1 dL_law_468 (by decide) (fun c1 => absurd c1 c0) (fun _ => ?_)
    refine lv_iconst (v := (1 : Int32)) X.1 X.2.1 dL_law_471 (by decide) ?_
    refine lv_goto (tgt := 476) X.1 X.2.1 dL_law_472 (by decide) ?_
    obtain ⟨cm', mm', r, hc1, hm1, hrel'⟩ := hSt n cap cm mm (xs (i + 1)) (xs (i + 2)) (xs (i + 3)) (1 : Int32) hn hrel (Or.inr rfl)
    refine L_C (As := [.int (xs (i + 1)), .int (xs (i + 2)), .int (xs (i + 3)), .int (1 : Int32)]) (rest := []) X w (kX8_begin (cap := cap) l D ca ad1 cm (xs (i + 1)) (xs (i + 2)) (xs (i + 3)) (1 : Int32) hc1) (gTV tw_588 tw_589 tw_590 tw_65 tw_591) hdX8_begin ⟨Nat.le_of_ble_eq_true rfl, Nat.le_of_ble_eq_true rfl⟩ rfl hl.1 rfl (Nat.le_of_ble_eq_true rfl) dL_law_476 ⟨by show _ ≤ 601024; omega, by show _ ≤ 7293034; omega⟩ (fun H locs w => ?_)
    refine lv_aload_n X.1 X.2.1 dL_law_479 rfl (lv_at hl 2 rfl) ?_
    refine lv_aload_n X.1 X.2.1 dL_law_480 rfl (lv_at hl 0 rfl) ?_
    refine lv_iload X.1 X.2.1 dL_law_481 (lv_at hl 4 rfl) ?_
    refine lv_iconst (v := (1 : Int32)) X.1 X.2.1 dL_law_483 (by decide) ?_
    refine lv_iadd X.1 X.2.1 dL_law_484 ?_
    refine lv_name (y := nI (i + 1)) (nI_add i 1) ?_
    refine va_sld X.1 X.2.1 hX hbl hbA w.2.2.2.1 (vp_in_nI (show i + 1 < L by omega) (by omega)) dL_law_485 ?_
    refine lv_name (y := xs (i + 1)) (by rw [nI_clamp (by omega)]) ?_
    refine lv_aload_n X.1 X.2.1 dL_law_486 rfl (lv_at hl 0 rfl) ?_
    refine lv_iload X.1 X.2.1 dL_law_487 (lv_at hl 4 rfl) ?_
    refine lv_iconst (v := (2 : Int32)) X.1 X.2.1 dL_law_489 (by decide) ?_
    refine lv_iadd X.1 X.2.1 dL_law_490 ?_
    refine lv_name (y := nI (i + 2)) (nI_add i 2) ?_
    refine va_sld X.1 X.2.1 hX hbl hbA w.2.2.2.1 (vp_in_nI (show i + 2 < L by omega) (by omega)) dL_law_491 ?_
    refine lv_name (y := xs (i + 2)) (by rw [nI_clamp (by omega)]) ?_
    refine lv_aload_n X.1 X.2.1 dL_law_492 rfl (lv_at hl 0 rfl) ?_
    refine lv_iload X.1 X.2.1 dL_law_493 (lv_at hl 4 rfl) ?_
    refine lv_iconst (v := (3 : Int32)) X.1 X.2.1 dL_law_495 (by decide) ?_
    refine lv_iadd X.1 X.2.1 dL_law_496 ?_
    refine lv_name (y := nI (i + 3)) (nI_add i 3) ?_
    refine va_sld X.1 X.2.1 hX hbl hbA w.2.2.2.1 (vp_in_nI (show i + 3 < L by omega) (by omega)) dL_law_497 ?_
    refine lv_name (y := xs (i + 3)) (by rw [nI_clamp (by omega)]) ?_
    refine lv_aload_n X.1 X.2.1 dL_law_498 rfl (lv_at hl 0 rfl) ?_
    refine lv_iload X.1 X.2.1 dL_law_499 (lv_at hl 4 rfl) ?_
    refine lv_iconst (v := (4 : Int32)) X.1 X.2.1 dL_law_501 (by decide) ?_
    refine lv_iadd X.1 X.2.1 dL_law_502 ?_
    refine lv_name (y := nI (i + 4)) (nI_add i 4) ?_
    refine va_sld X.1 X.2.1 hX hbl hbA w.2.2.2.1 (vp_in_nI (show i + 4 < L by omega) (by omega)) dL_law_503 ?_
    refine lv_name (y := xs (i + 4)) (by rw [nI_clamp (by omega)]) ?_
    refine lv_if_eq (tgt := 511) X.1 X.2.1 dL_law_504 (by decide) (fun c1 => absurd c1 c0) (fun _ => ?_)
    refine lv_iconst (v := (1 : Int32)) X.1 X.2.1 dL_law_507 (by decide) ?_
    refine lv_goto (tgt := 512) X.1 X.2.1 dL_law_508 (by decide) ?_
    refine L_M (As := [.int (xs (i + 1)), .int (xs (i + 2)), .int (xs (i + 3)), .int (1 : Int32)]) (rest := [.int r]) X w (kX9_begin l D ca ad2 mm (xs (i + 1)) (xs (i + 2)) (xs (i + 3)) (1 : Int32) hm1) (gTV tw_1110 tw_1111 tw_1112 tw_75 tw_1113) hdX9_begin ⟨Nat.le_of_ble_eq_true rfl, Nat.le_of_ble_eq_true rfl⟩ rfl hl.1 rfl (Nat.le_of_ble_eq_true rfl) dL_law_512 ⟨by show _ ≤ 601024; omega, by show _ ≤ 7293034; omega⟩ (fun H locs w => ?_)
    refine lv_icmp_eq (tgt := 1137) X.1 X.2.1 dL_law_515 (by decide) (fun _ => ?_) (fun c1 => absurd rfl c1)
    exact kk _ _ _ _ _ _ _ _ _ _ (by omega) (by omega) hrel' w hl
/-- what the pure proof owes for turn -/
def St_turn (Rel : Nat → Nat → Mm → Mm → Prop) : Prop := ∀ (n cap : Nat) (cm mm : Mm) (a1 : Int32), n < 512 → Rel n cap cm mm → ∃ (cm' mm' : Mm) (r : Int32), fX8_turn cm a1 = some (cm', r) ∧ fX9_turn mm a1 = some (mm', r) ∧ Rel (n + 1) cap cm' mm'
set_option maxRecDepth 100000 in
set_option maxHeartbeats 4000000 in
theorem law_turn {p : Program} {l : Launch} {e : Env} {s : State} {m : MethodId} {below : List Frame} {meth : Method} {c : Code} {D : va_G} {ca : Nat → ClassId} {ad1 ad2 : Nat → Nat} {cap q3 : Nat} {cm mm : Mm} {fo : Nat → Int64} {cL : ClassId} {b L : Nat} {xs : Nat → Int32} {i n cells slots : Nat} {H : Heap} {locs : List Loc} {ls : Array Slot} {Q : State → Prop} {Rel : Nat → Nat → Mm → Mm → Prop} (X : CallFix p m c cL_law 7 s #[Value.ref b] TT RL) (hX : va_X b L xs s s.heap) (hbl : b < s.heap.size) (hi : i + 6 ≤ L) (hL : L ≤ 3072) (hSt : St_turn Rel) (hn : n < 512) (hrel : Rel n cap cm mm) (w : LW D ca ad1 cap cm ad2 mm q3 fo cL s H locs) (hl : lv_has ls 7 [(0, .ref b), (1, .ref (ad1 0)), (2, .ref (ad2 0)), (3, .ref q3), (4, .int (nI i))]) (hc : cells + 2 ≤ 601024) (hs : slots + 1024 ≤ 7293034) (kk : ∀ (u : Nat → Nat) (cap' : Nat) (cm' mm' : Mm) (fo' : Nat → Int64) (H : Heap) (locs : List Loc) (ls : Array Slot) (cells' slots' : Nat), cells' ≤ cells + 2 → slots' ≤ slots + 1024 → Rel (n + 1) cap' cm' mm' → LW D ca u cap' cm' ad2 mm' q3 fo' cL s H locs → lv_has ls 7 [(0, .ref b), (1, .ref (u 0)), (2, .ref (ad2 0)), (3, .ref q3), (4, .int (nI i))] → W p l e room_1 s m #[Value.ref b] below meth c H locs cells' slots' Q (F0 m 1137 ls [])) : W p l e room_1 s m #[Value.ref b] below meth c H locs cells slots Q (F0 m 520 ls []) := by
  have hbA : ¬ (fun q : Nat => s.heap.size ≤ q) b := Nat.not_le.mpr hbl
  refine lv_aload_n X.1 X.2.1 dL_law_520 rfl (lv_at hl 1 rfl) ?_
  refine lv_aload_n X.1 X.2.1 dL_law_521 rfl (lv_at hl 0 rfl) ?_
  refine lv_iload X.1 X.2.1 dL_law_522 (lv_at hl 4 rfl) ?_
  refine lv_iconst (v := (1 : Int32)) X.1 X.2.1 dL_law_524 (by decide) ?_
  refine lv_iadd X.1 X.2.1 dL_law_525 ?_
  refine lv_name (y := nI (i + 1)) (nI_add i 1) ?_
  refine va_sld X.1 X.2.1 hX hbl hbA w.2.2.2.1 (vp_in_nI (show i + 1 < L by omega) (by omega)) dL_law_526 ?_
  refine lv_name (y := xs (i + 1)) (by rw [nI_clamp (by omega)]) ?_
  obtain ⟨cm', mm', r, hc1, hm1, hrel'⟩ := hSt n cap cm mm (xs (i + 1)) hn hrel
  refine L_C (As := [.int (xs (i + 1))]) (rest := []) X w (kX8_turn (cap := cap) l D ca ad1 cm (xs (i + 1)) hc1) (gTV tw_595 tw_596 tw_597 tw_65 tw_598) hdX8_turn ⟨Nat.le_of_ble_eq_true rfl, Nat.le_of_ble_eq_true rfl⟩ rfl hl.1 rfl (Nat.le_of_ble_eq_true rfl) dL_law_527 ⟨by show _ ≤ 601024; omega, by show _ ≤ 7293034; omega⟩ (fun H locs w => ?_)
  refine lv_aload_n X.1 X.2.1 dL_law_530 rfl (lv_at hl 2 rfl) ?_
  refine lv_aload_n X.1 X.2.1 dL_law_531 rfl (lv_at hl 0 rfl) ?_
  refine lv_iload X.1 X.2.1 dL_law_532 (lv_at hl 4 rfl) ?_
  refine lv_iconst (v := (1 : Int32)) X.1 X.2.1 dL_law_534 (by decide) ?_
  refine lv_iadd X.1 X.2.1 dL_law_535 ?_
  refine lv_name (y := nI (i + 1)) (nI_add i 1) ?_
  refine va_sld X.1 X.2.1 hX hbl hbA w.2.2.2.1 (vp_in_nI (show i + 1 < L by omega) (by omega)) dL_law_536 ?_
  refine lv_name (y := xs (i + 1)) (by rw [nI_clamp (by omega)]) ?_
  refine L_M (As := [.int (xs (i + 1))]) (rest := [.int r]) X w (kX9_turn l D ca ad2 mm (xs (i + 1)) hm1) (gTV tw_1118 tw_1119 tw_1120 tw_75 tw_1121) hdX9_turn ⟨Nat.le_of_ble_eq_true rfl, Nat.le_of_ble_eq_true rfl⟩ rfl hl.1 rfl (Nat.le_of_ble_eq_true rfl) dL_law_537 ⟨by show _ ≤ 601024; omega, by show _ ≤ 7293034; omega⟩ (fun H locs w => ?_)
  refine lv_icmp_eq (tgt := 1137) X.1 X.2.1 dL_law_540 (by decide) (fun _ => ?_) (fun c1 => absurd rfl c1)
  exact kk _ _ _ _ _ _ _ _ _ _ (by omega) (by omega) hrel' w hl
/-- what the pure proof owes for walker -/
def St_walker (Rel : Nat → Nat → Mm → Mm → Prop) : Prop := ∀ (n cap : Nat) (cm mm : Mm) (a1 : Int32) (a2 : Int32), n < 512 → Rel n cap cm mm → ∃ (mm' : Mm) (r : Int32), fX8_walker cm a1 a2 = some r ∧ fX9_walker mm a1 a2 = some (mm', r) ∧ Rel (n + 1) cap cm mm'
set_option maxRecDepth 100000 in
set_option maxHeartbeats 4000000 in
theorem law_walker {p : Program} {l : Launch} {e : Env} {s : State} {m : MethodId} {below : List Frame} {meth : Method} {c : Code} {D : va_G} {ca : Nat → ClassId} {ad1 ad2 : Nat → Nat} {cap q3 : Nat} {cm mm : Mm} {fo : Nat → Int64} {cL : ClassId} {b L : Nat} {xs : Nat → Int32} {i n cells slots : Nat} {H : Heap} {locs : List Loc} {ls : Array Slot} {Q : State → Prop} {Rel : Nat → Nat → Mm → Mm → Prop} (X : CallFix p m c cL_law 7 s #[Value.ref b] TT RL) (hX : va_X b L xs s s.heap) (hbl : b < s.heap.size) (hi : i + 6 ≤ L) (hL : L ≤ 3072) (hSt : St_walker Rel) (hn : n < 512) (hrel : Rel n cap cm mm) (w : LW D ca ad1 cap cm ad2 mm q3 fo cL s H locs) (hl : lv_has ls 7 [(0, .ref b), (1, .ref (ad1 0)), (2, .ref (ad2 0)), (3, .ref q3), (4, .int (nI i))]) (hc : cells + 2 ≤ 601024) (hs : slots + 1024 ≤ 7293034) (kk : ∀ (u : Nat → Nat) (cap' : Nat) (cm' mm' : Mm) (fo' : Nat → Int64) (H : Heap) (locs : List Loc) (ls : Array Slot) (cells' slots' : Nat), cells' ≤ cells + 2 → slots' ≤ slots + 1024 → Rel (n + 1) cap' cm' mm' → LW D ca u cap' cm' ad2 mm' q3 fo' cL s H locs → lv_has ls 7 [(0, .ref b), (1, .ref (u 0)), (2, .ref (ad2 0)), (3, .ref q3), (4, .int (nI i))] → W p l e room_1 s m #[Value.ref b] below meth c H locs cells' slots' Q (F0 m 1137 ls [])) : W p l e room_1 s m #[Value.ref b] below meth c H locs cells slots Q (F0 m 545 ls []) := by
  have hbA : ¬ (fun q : Nat => s.heap.size ≤ q) b := Nat.not_le.mpr hbl
  refine lv_aload_n X.1 X.2.1 dL_law_545 rfl (lv_at hl 1 rfl) ?_
  refine lv_aload_n X.1 X.2.1 dL_law_546 rfl (lv_at hl 0 rfl) ?_
  refine lv_iload X.1 X.2.1 dL_law_547 (lv_at hl 4 rfl) ?_
  refine lv_iconst (v := (1 : Int32)) X.1 X.2.1 dL_law_549 (by decide) ?_
  refine lv_iadd X.1 X.2.1 dL_law_550 ?_
  refine lv_name (y := nI (i + 1)) (nI_add i 1) ?_
  refine va_sld X.1 X.2.1 hX hbl hbA w.2.2.2.1 (vp_in_nI (show i + 1 < L by omega) (by omega)) dL_law_551 ?_
  refine lv_name (y := xs (i + 1)) (by rw [nI_clamp (by omega)]) ?_
  refine lv_aload_n X.1 X.2.1 dL_law_552 rfl (lv_at hl 0 rfl) ?_
  refine lv_iload X.1 X.2.1 dL_law_553 (lv_at hl 4 rfl) ?_
  refine lv_iconst (v := (2 : Int32)) X.1 X.2.1 dL_law_555 (by decide) ?_
  refine lv_iadd X.1 X.2.1 dL_law_556 ?_
  refine lv_name (y := nI (i + 2)) (nI_add i 2) ?_
  refine va_sld X.1 X.2.1 hX hbl hbA w.2.2.2.1 (vp_in_nI (show i + 2 < L by omega) (by omega)) dL_law_557 ?_
  refine lv_name (y := xs (i + 2)) (by rw [nI_clamp (by omega)]) ?_
  obtain ⟨mm', r, hc1, hm1, hrel'⟩ := hSt n cap cm mm (xs (i + 1)) (xs (i + 2)) hn hrel
  refine L_C (As := [.int (xs (i + 1)), .int (xs (i + 2))]) (rest := []) X w (kX8_walker (cap := cap) l D ca ad1 cm (xs (i + 1)) (xs (i + 2)) hc1) (gTV tw_599 tw_600 tw_601 tw_65 tw_602) hdX8_walker ⟨Nat.le_of_ble_eq_true rfl, Nat.le_of_ble_eq_true rfl⟩ rfl hl.1 rfl (Nat.le_of_ble_eq_true rfl) dL_law_558 ⟨by show _ ≤ 601024; omega, by show _ ≤ 7293034; omega⟩ (fun H locs w => ?_)
  refine lv_aload_n X.1 X.2.1 dL_law_561 rfl (lv_at hl 2 rfl) ?_
  refine lv_aload_n X.1 X.2.1 dL_law_562 rfl (lv_at hl 0 rfl) ?_
  refine lv_iload X.1 X.2.1 dL_law_563 (lv_at hl 4 rfl) ?_
  refine lv_iconst (v := (1 : Int32)) X.1 X.2.1 dL_law_565 (by decide) ?_
  refine lv_iadd X.1 X.2.1 dL_law_566 ?_
  refine lv_name (y := nI (i + 1)) (nI_add i 1) ?_
  refine va_sld X.1 X.2.1 hX hbl hbA w.2.2.2.1 (vp_in_nI (show i + 1 < L by omega) (by omega)) dL_law_567 ?_
  refine lv_name (y := xs (i + 1)) (by rw [nI_clamp (by omega)]) ?_
  refine lv_aload_n X.1 X.2.1 dL_law_568 rfl (lv_at hl 0 rfl) ?_
  refine lv_iload X.1 X.2.1 dL_law_569 (lv_at hl 4 rfl) ?_
  refine lv_iconst (v := (2 : Int32)) X.1 X.2.1 dL_law_571 (by decide) ?_
  refine lv_iadd X.1 X.2.1 dL_law_572 ?_
  refine lv_name (y := nI (i + 2)) (nI_add i 2) ?_
  refine va_sld X.1 X.2.1 hX hbl hbA w.2.2.2.1 (vp_in_nI (show i + 2 < L by omega) (by omega)) dL_law_573 ?_
  refine lv_name (y := xs (i + 2)) (by rw [nI_clamp (by omega)]) ?_
  refine L_M (As := [.int (xs (i + 1)), .int (xs (i + 2))]) (rest := [.int r]) X w (kX9_walker l D ca ad2 mm (xs (i + 1)) (xs (i + 2)) hm1) (gTV tw_1122 tw_1123 tw_1124 tw_75 tw_1125) hdX9_walker ⟨Nat.le_of_ble_eq_true rfl, Nat.le_of_ble_eq_true rfl⟩ rfl hl.1 rfl (Nat.le_of_ble_eq_true rfl) dL_law_574 ⟨by show _ ≤ 601024; omega, by show _ ≤ 7293034; omega⟩ (fun H locs w => ?_)
  refine lv_icmp_eq (tgt := 1137) X.1 X.2.1 dL_law_577 (by decide) (fun _ => ?_) (fun c1 => absurd rfl c1)
  exact kk _ _ _ _ _ _ _ _ _ _ (by omega) (by omega) hrel' w hl
/-- what the pure proof owes for fence -/
def St_fence (Rel : Nat → Nat → Mm → Mm → Prop) : Prop := ∀ (n cap : Nat) (cm mm : Mm) (a1 : Int32) (a2 : Int32), n < 512 → Rel n cap cm mm → ∃ (cap' : Nat) (cm' mm' : Mm) (r : Int32), fX8_fence cap cm a1 a2 = some (cap', cm', r) ∧ fX9_fence mm a1 a2 = some (mm', r) ∧ Rel (n + 1) cap' cm' mm'
set_option maxRecDepth 100000 in
set_option maxHeartbeats 4000000 in
theorem law_fence {p : Program} {l : Launch} {e : Env} {s : State} {m : MethodId} {below : List Frame} {meth : Method} {c : Code} {D : va_G} {ca : Nat → ClassId} {ad1 ad2 : Nat → Nat} {cap q3 : Nat} {cm mm : Mm} {fo : Nat → Int64} {cL : ClassId} {b L : Nat} {xs : Nat → Int32} {i n cells slots : Nat} {H : Heap} {locs : List Loc} {ls : Array Slot} {Q : State → Prop} {Rel : Nat → Nat → Mm → Mm → Prop} (X : CallFix p m c cL_law 7 s #[Value.ref b] TT RL) (hX : va_X b L xs s s.heap) (hbl : b < s.heap.size) (hi : i + 6 ≤ L) (hL : L ≤ 3072) (hSt : St_fence Rel) (hn : n < 512) (hrel : Rel n cap cm mm) (w : LW D ca ad1 cap cm ad2 mm q3 fo cL s H locs) (hl : lv_has ls 7 [(0, .ref b), (1, .ref (ad1 0)), (2, .ref (ad2 0)), (3, .ref q3), (4, .int (nI i))]) (hc : cells + 2 ≤ 601024) (hs : slots + 1024 ≤ 7293034) (kk : ∀ (u : Nat → Nat) (cap' : Nat) (cm' mm' : Mm) (fo' : Nat → Int64) (H : Heap) (locs : List Loc) (ls : Array Slot) (cells' slots' : Nat), cells' ≤ cells + 2 → slots' ≤ slots + 1024 → Rel (n + 1) cap' cm' mm' → LW D ca u cap' cm' ad2 mm' q3 fo' cL s H locs → lv_has ls 7 [(0, .ref b), (1, .ref (u 0)), (2, .ref (ad2 0)), (3, .ref q3), (4, .int (nI i))] → W p l e room_1 s m #[Value.ref b] below meth c H locs cells' slots' Q (F0 m 1137 ls [])) : W p l e room_1 s m #[Value.ref b] below meth c H locs cells slots Q (F0 m 582 ls []) := by
  have hbA : ¬ (fun q : Nat => s.heap.size ≤ q) b := Nat.not_le.mpr hbl
  refine lv_aload_n X.1 X.2.1 dL_law_582 rfl (lv_at hl 1 rfl) ?_
  refine lv_aload_n X.1 X.2.1 dL_law_583 rfl (lv_at hl 0 rfl) ?_
  refine lv_iload X.1 X.2.1 dL_law_584 (lv_at hl 4 rfl) ?_
  refine lv_iconst (v := (1 : Int32)) X.1 X.2.1 dL_law_586 (by decide) ?_
  refine lv_iadd X.1 X.2.1 dL_law_587 ?_
  refine lv_name (y := nI (i + 1)) (nI_add i 1) ?_
  refine va_sld X.1 X.2.1 hX hbl hbA w.2.2.2.1 (vp_in_nI (show i + 1 < L by omega) (by omega)) dL_law_588 ?_
  refine lv_name (y := xs (i + 1)) (by rw [nI_clamp (by omega)]) ?_
  refine lv_aload_n X.1 X.2.1 dL_law_589 rfl (lv_at hl 0 rfl) ?_
  refine lv_iload X.1 X.2.1 dL_law_590 (lv_at hl 4 rfl) ?_
  refine lv_iconst (v := (2 : Int32)) X.1 X.2.1 dL_law_592 (by decide) ?_
  refine lv_iadd X.1 X.2.1 dL_law_593 ?_
  refine lv_name (y := nI (i + 2)) (nI_add i 2) ?_
  refine va_sld X.1 X.2.1 hX hbl hbA w.2.2.2.1 (vp_in_nI (show i + 2 < L by omega) (by omega)) dL_law_594 ?_
  refine lv_name (y := xs (i + 2)) (by rw [nI_clamp (by omega)]) ?_
  obtain ⟨cap', cm', mm', r, hc1, hm1, hrel'⟩ := hSt n cap cm mm (xs (i + 1)) (xs (i + 2)) hn hrel
  refine L_F X w hc1 (gTV tw_603 tw_604 tw_605 tw_65 tw_606) ⟨Nat.le_of_ble_eq_true rfl, Nat.le_of_ble_eq_true rfl⟩ hl.1 (Nat.le_of_ble_eq_true rfl) dL_law_595 ⟨hc, hs⟩ (fun u H locs hu w => ?_)
  replace hl : lv_has ls 7 [(0, .ref b), (1, .ref (u 0)), (2, .ref (ad2 0)), (3, .ref q3), (4, .int (nI i))] := by rw [hu]; exact hl
  refine lv_aload_n X.1 X.2.1 dL_law_598 rfl (lv_at hl 2 rfl) ?_
  refine lv_aload_n X.1 X.2.1 dL_law_599 rfl (lv_at hl 0 rfl) ?_
  refine lv_iload X.1 X.2.1 dL_law_600 (lv_at hl 4 rfl) ?_
  refine lv_iconst (v := (1 : Int32)) X.1 X.2.1 dL_law_602 (by decide) ?_
  refine lv_iadd X.1 X.2.1 dL_law_603 ?_
  refine lv_name (y := nI (i + 1)) (nI_add i 1) ?_
  refine va_sld X.1 X.2.1 hX hbl hbA w.2.2.2.1 (vp_in_nI (show i + 1 < L by omega) (by omega)) dL_law_604 ?_
  refine lv_name (y := xs (i + 1)) (by rw [nI_clamp (by omega)]) ?_
  refine lv_aload_n X.1 X.2.1 dL_law_605 rfl (lv_at hl 0 rfl) ?_
  refine lv_iload X.1 X.2.1 dL_law_606 (lv_at hl 4 rfl) ?_
  refine lv_iconst (v := (2 : Int32)) X.1 X.2.1 dL_law_608 (by decide) ?_
  refine lv_iadd X.1 X.2.1 dL_law_609 ?_
  refine lv_name (y := nI (i + 2)) (nI_add i 2) ?_
  refine va_sld X.1 X.2.1 hX hbl hbA w.2.2.2.1 (vp_in_nI (show i + 2 < L by omega) (by omega)) dL_law_610 ?_
  refine lv_name (y := xs (i + 2)) (by rw [nI_clamp (by omega)]) ?_
  refine L_M (As := [.int (xs (i + 1)), .int (xs (i + 2))]) (rest := [.int r]) X w (kX9_fence l D ca ad2 mm (xs (i + 1)) (xs (i + 2)) hm1) (gTV tw_1126 tw_1127 tw_1128 tw_75 tw_1129) hdX9_fence ⟨Nat.le_of_ble_eq_true rfl, Nat.le_of_ble_eq_true rfl⟩ rfl hl.1 rfl (Nat.le_of_ble_eq_true rfl) dL_law_611 ⟨by show _ ≤ 601024; omega, by show _ ≤ 7293034; omega⟩ (fun H locs w => ?_)
  refine lv_icmp_eq (tgt := 1137) X.1 X.2.1 dL_law_614 (by decide) (fun _ => ?_) (fun c1 => absurd rfl c1)
  exact kk _ _ _ _ _ _ _ _ _ _ (by omega) (by omega) hrel' w hl
/-- what the pure proof owes for fenceSpace -/
def St_fenceSpace (Rel : Nat → Nat → Mm → Mm → Prop) : Prop := ∀ (n cap : Nat) (cm mm : Mm) (a1 : Int32), n < 512 → Rel n cap cm mm → ∃ (cm' mm' : Mm) (r : Int32), fX8_fenceSpace cm a1 = some (cm', r) ∧ fX9_fenceSpace mm a1 = some (mm', r) ∧ Rel (n + 1) cap cm' mm'
set_option maxRecDepth 100000 in
set_option maxHeartbeats 4000000 in
theorem law_fenceSpace {p : Program} {l : Launch} {e : Env} {s : State} {m : MethodId} {below : List Frame} {meth : Method} {c : Code} {D : va_G} {ca : Nat → ClassId} {ad1 ad2 : Nat → Nat} {cap q3 : Nat} {cm mm : Mm} {fo : Nat → Int64} {cL : ClassId} {b L : Nat} {xs : Nat → Int32} {i n cells slots : Nat} {H : Heap} {locs : List Loc} {ls : Array Slot} {Q : State → Prop} {Rel : Nat → Nat → Mm → Mm → Prop} (X : CallFix p m c cL_law 7 s #[Value.ref b] TT RL) (hX : va_X b L xs s s.heap) (hbl : b < s.heap.size) (hi : i + 6 ≤ L) (hL : L ≤ 3072) (hSt : St_fenceSpace Rel) (hn : n < 512) (hrel : Rel n cap cm mm) (w : LW D ca ad1 cap cm ad2 mm q3 fo cL s H locs) (hl : lv_has ls 7 [(0, .ref b), (1, .ref (ad1 0)), (2, .ref (ad2 0)), (3, .ref q3), (4, .int (nI i))]) (hc : cells + 2 ≤ 601024) (hs : slots + 1024 ≤ 7293034) (kk : ∀ (u : Nat → Nat) (cap' : Nat) (cm' mm' : Mm) (fo' : Nat → Int64) (H : Heap) (locs : List Loc) (ls : Array Slot) (cells' slots' : Nat), cells' ≤ cells + 2 → slots' ≤ slots + 1024 → Rel (n + 1) cap' cm' mm' → LW D ca u cap' cm' ad2 mm' q3 fo' cL s H locs → lv_has ls 7 [(0, .ref b), (1, .ref (u 0)), (2, .ref (ad2 0)), (3, .ref q3), (4, .int (nI i))] → W p l e room_1 s m #[Value.ref b] below meth c H locs cells' slots' Q (F0 m 1137 ls [])) : W p l e room_1 s m #[Value.ref b] below meth c H locs cells slots Q (F0 m 619 ls []) := by
  have hbA : ¬ (fun q : Nat => s.heap.size ≤ q) b := Nat.not_le.mpr hbl
  refine lv_aload_n X.1 X.2.1 dL_law_619 rfl (lv_at hl 1 rfl) ?_
  refine lv_aload_n X.1 X.2.1 dL_law_620 rfl (lv_at hl 0 rfl) ?_
  refine lv_iload X.1 X.2.1 dL_law_621 (lv_at hl 4 rfl) ?_
  refine lv_iconst (v := (1 : Int32)) X.1 X.2.1 dL_law_623 (by decide) ?_
  refine lv_iadd X.1 X.2.1 dL_law_624 ?_
  refine lv_name (y := nI (i + 1)) (nI_add i 1) ?_
  refine va_sld X.1 X.2.1 hX hbl hbA w.2.2.2.1 (vp_in_nI (show i + 1 < L by omega) (by omega)) dL_law_625 ?_
  refine lv_name (y := xs (i + 1)) (by rw [nI_clamp (by omega)]) ?_
  obtain ⟨cm', mm', r, hc1, hm1, hrel'⟩ := hSt n cap cm mm (xs (i + 1)) hn hrel
  refine L_C (As := [.int (xs (i + 1))]) (rest := []) X w (kX8_fenceSpace (cap := cap) l D ca ad1 cm (xs (i + 1)) hc1) (gTV tw_636 tw_637 tw_638 tw_65 tw_639) hdX8_fenceSpace ⟨Nat.le_of_ble_eq_true rfl, Nat.le_of_ble_eq_true rfl⟩ rfl hl.1 rfl (Nat.le_of_ble_eq_true rfl) dL_law_626 ⟨by show _ ≤ 601024; omega, by show _ ≤ 7293034; omega⟩ (fun H locs w => ?_)
  refine lv_aload_n X.1 X.2.1 dL_law_629 rfl (lv_at hl 2 rfl) ?_
  refine lv_aload_n X.1 X.2.1 dL_law_630 rfl (lv_at hl 0 rfl) ?_
  refine lv_iload X.1 X.2.1 dL_law_631 (lv_at hl 4 rfl) ?_
  refine lv_iconst (v := (1 : Int32)) X.1 X.2.1 dL_law_633 (by decide) ?_
  refine lv_iadd X.1 X.2.1 dL_law_634 ?_
  refine lv_name (y := nI (i + 1)) (nI_add i 1) ?_
  refine va_sld X.1 X.2.1 hX hbl hbA w.2.2.2.1 (vp_in_nI (show i + 1 < L by omega) (by omega)) dL_law_635 ?_
  refine lv_name (y := xs (i + 1)) (by rw [nI_clamp (by omega)]) ?_
  refine L_M (As := [.int (xs (i + 1))]) (rest := [.int r]) X w (kX9_fenceSpace l D ca ad2 mm (xs (i + 1)) hm1) (gTV tw_1138 tw_1139 tw_1140 tw_75 tw_1141) hdX9_fenceSpace ⟨Nat.le_of_ble_eq_true rfl, Nat.le_of_ble_eq_true rfl⟩ rfl hl.1 rfl (Nat.le_of_ble_eq_true rfl) dL_law_636 ⟨by show _ ≤ 601024; omega, by show _ ≤ 7293034; omega⟩ (fun H locs w => ?_)
  refine lv_icmp_eq (tgt := 1137) X.1 X.2.1 dL_law_639 (by decide) (fun _ => ?_) (fun c1 => absurd rfl c1)
  exact kk _ _ _ _ _ _ _ _ _ _ (by omega) (by omega) hrel' w hl
/-- what the pure proof owes for fenceAll -/
def St_fenceAll (Rel : Nat → Nat → Mm → Mm → Prop) : Prop := ∀ (n cap : Nat) (cm mm : Mm) , n < 512 → Rel n cap cm mm → ∃ (cm' mm' : Mm) (r : Int32), fX8_fenceAll cm  = some (cm', r) ∧ fX9_fenceAll mm  = some (mm', r) ∧ Rel (n + 1) cap cm' mm'
set_option maxRecDepth 100000 in
set_option maxHeartbeats 4000000 in
theorem law_fenceAll {p : Program} {l : Launch} {e : Env} {s : State} {m : MethodId} {below : List Frame} {meth : Method} {c : Code} {D : va_G} {ca : Nat → ClassId} {ad1 ad2 : Nat → Nat} {cap q3 : Nat} {cm mm : Mm} {fo : Nat → Int64} {cL : ClassId} {b L : Nat} {xs : Nat → Int32} {i n cells slots : Nat} {H : Heap} {locs : List Loc} {ls : Array Slot} {Q : State → Prop} {Rel : Nat → Nat → Mm → Mm → Prop} (X : CallFix p m c cL_law 7 s #[Value.ref b] TT RL) (hX : va_X b L xs s s.heap) (hbl : b < s.heap.size) (hi : i + 6 ≤ L) (hL : L ≤ 3072) (hSt : St_fenceAll Rel) (hn : n < 512) (hrel : Rel n cap cm mm) (w : LW D ca ad1 cap cm ad2 mm q3 fo cL s H locs) (hl : lv_has ls 7 [(0, .ref b), (1, .ref (ad1 0)), (2, .ref (ad2 0)), (3, .ref q3), (4, .int (nI i))]) (hc : cells + 2 ≤ 601024) (hs : slots + 1024 ≤ 7293034) (kk : ∀ (u : Nat → Nat) (cap' : Nat) (cm' mm' : Mm) (fo' : Nat → Int64) (H : Heap) (locs : List Loc) (ls : Array Slot) (cells' slots' : Nat), cells' ≤ cells + 2 → slots' ≤ slots + 1024 → Rel (n + 1) cap' cm' mm' → LW D ca u cap' cm' ad2 mm' q3 fo' cL s H locs → lv_has ls 7 [(0, .ref b), (1, .ref (u 0)), (2, .ref (ad2 0)), (3, .ref q3), (4, .int (nI i))] → W p l e room_1 s m #[Value.ref b] below meth c H locs cells' slots' Q (F0 m 1137 ls [])) : W p l e room_1 s m #[Value.ref b] below meth c H locs cells slots Q (F0 m 644 ls []) := by
  have hbA : ¬ (fun q : Nat => s.heap.size ≤ q) b := Nat.not_le.mpr hbl
  refine lv_aload_n X.1 X.2.1 dL_law_644 rfl (lv_at hl 1 rfl) ?_
  obtain ⟨cm', mm', r, hc1, hm1, hrel'⟩ := hSt n cap cm mm  hn hrel
  refine L_C (As := []) (rest := []) X w (kX8_fenceAll (cap := cap) l D ca ad1 cm  hc1) (gTV tw_640 tw_641 tw_642 tw_65 tw_643) hdX8_fenceAll ⟨Nat.le_of_ble_eq_true rfl, Nat.le_of_ble_eq_true rfl⟩ rfl hl.1 rfl (Nat.le_of_ble_eq_true rfl) dL_law_645 ⟨by show _ ≤ 601024; omega, by show _ ≤ 7293034; omega⟩ (fun H locs w => ?_)
  refine lv_aload_n X.1 X.2.1 dL_law_648 rfl (lv_at hl 2 rfl) ?_
  refine L_M (As := []) (rest := [.int r]) X w (kX9_fenceAll l D ca ad2 mm  hm1) (gTV tw_1142 tw_1143 tw_1144 tw_75 tw_1145) hdX9_fenceAll ⟨Nat.le_of_ble_eq_true rfl, Nat.le_of_ble_eq_true rfl⟩ rfl hl.1 rfl (Nat.le_of_ble_eq_true rfl) dL_law_649 ⟨by show _ ≤ 601024; omega, by show _ ≤ 7293034; omega⟩ (fun H locs w => ?_)
  refine lv_icmp_eq (tgt := 1137) X.1 X.2.1 dL_law_652 (by decide) (fun _ => ?_) (fun c1 => absurd rfl c1)
  exact kk _ _ _ _ _ _ _ _ _ _ (by omega) (by omega) hrel' w hl
/-- what the pure proof owes for way -/
def St_way (Rel : Nat → Nat → Mm → Mm → Prop) : Prop := ∀ (n cap : Nat) (cm mm : Mm) (a1 : Int32) (a2 : Int32) (a3 : Int32), n < 512 → Rel n cap cm mm → ∃ (cm' mm' : Mm) (r : Int32), fX8_way cm a1 a2 a3 = some (cm', r) ∧ fX9_way mm a1 a2 a3 = some (mm', r) ∧ Rel (n + 1) cap cm' mm'
set_option maxRecDepth 100000 in
set_option maxHeartbeats 4000000 in
theorem law_way {p : Program} {l : Launch} {e : Env} {s : State} {m : MethodId} {below : List Frame} {meth : Method} {c : Code} {D : va_G} {ca : Nat → ClassId} {ad1 ad2 : Nat → Nat} {cap q3 : Nat} {cm mm : Mm} {fo : Nat → Int64} {cL : ClassId} {b L : Nat} {xs : Nat → Int32} {i n cells slots : Nat} {H : Heap} {locs : List Loc} {ls : Array Slot} {Q : State → Prop} {Rel : Nat → Nat → Mm → Mm → Prop} (X : CallFix p m c cL_law 7 s #[Value.ref b] TT RL) (hX : va_X b L xs s s.heap) (hbl : b < s.heap.size) (hi : i + 6 ≤ L) (hL : L ≤ 3072) (hSt : St_way Rel) (hn : n < 512) (hrel : Rel n cap cm mm) (w : LW D ca ad1 cap cm ad2 mm q3 fo cL s H locs) (hl : lv_has ls 7 [(0, .ref b), (1, .ref (ad1 0)), (2, .ref (ad2 0)), (3, .ref q3), (4, .int (nI i))]) (hc : cells + 2 ≤ 601024) (hs : slots + 1024 ≤ 7293034) (kk : ∀ (u : Nat → Nat) (cap' : Nat) (cm' mm' : Mm) (fo' : Nat → Int64) (H : Heap) (locs : List Loc) (ls : Array Slot) (cells' slots' : Nat), cells' ≤ cells + 2 → slots' ≤ slots + 1024 → Rel (n + 1) cap' cm' mm' → LW D ca u cap' cm' ad2 mm' q3 fo' cL s H locs → lv_has ls 7 [(0, .ref b), (1, .ref (u 0)), (2, .ref (ad2 0)), (3, .ref q3), (4, .int (nI i))] → W p l e room_1 s m #[Value.ref b] below meth c H locs cells' slots' Q (F0 m 1137 ls [])) : W p l e room_1 s m #[Value.ref b] below meth c H locs cells slots Q (F0 m 657 ls []) := by
  have hbA : ¬ (fun q : Nat => s.heap.size ≤ q) b := Nat.not_le.mpr hbl
  refine lv_aload_n X.1 X.2.1 dL_law_657 rfl (lv_at hl 1 rfl) ?_
  refine lv_aload_n X.1 X.2.1 dL_law_658 rfl (lv_at hl 0 rfl) ?_
  refine lv_iload X.1 X.2.1 dL_law_659 (lv_at hl 4 rfl) ?_
  refine lv_iconst (v := (1 : Int32)) X.1 X.2.1 dL_law_661 (by decide) ?_
  refine lv_iadd X.1 X.2.1 dL_law_662 ?_
  refine lv_name (y := nI (i + 1)) (nI_add i 1) ?_
  refine va_sld X.1 X.2.1 hX hbl hbA w.2.2.2.1 (vp_in_nI (show i + 1 < L by omega) (by omega)) dL_law_663 ?_
  refine lv_name (y := xs (i + 1)) (by rw [nI_clamp (by omega)]) ?_
  refine lv_aload_n X.1 X.2.1 dL_law_664 rfl (lv_at hl 0 rfl) ?_
  refine lv_iload X.1 X.2.1 dL_law_665 (lv_at hl 4 rfl) ?_
  refine lv_iconst (v := (2 : Int32)) X.1 X.2.1 dL_law_667 (by decide) ?_
  refine lv_iadd X.1 X.2.1 dL_law_668 ?_
  refine lv_name (y := nI (i + 2)) (nI_add i 2) ?_
  refine va_sld X.1 X.2.1 hX hbl hbA w.2.2.2.1 (vp_in_nI (show i + 2 < L by omega) (by omega)) dL_law_669 ?_
  refine lv_name (y := xs (i + 2)) (by rw [nI_clamp (by omega)]) ?_
  refine lv_aload_n X.1 X.2.1 dL_law_670 rfl (lv_at hl 0 rfl) ?_
  refine lv_iload X.1 X.2.1 dL_law_671 (lv_at hl 4 rfl) ?_
  refine lv_iconst (v := (3 : Int32)) X.1 X.2.1 dL_law_673 (by decide) ?_
  refine lv_iadd X.1 X.2.1 dL_law_674 ?_
  refine lv_name (y := nI (i + 3)) (nI_add i 3) ?_
  refine va_sld X.1 X.2.1 hX hbl hbA w.2.2.2.1 (vp_in_nI (show i + 3 < L by omega) (by omega)) dL_law_675 ?_
  refine lv_name (y := xs (i + 3)) (by rw [nI_clamp (by omega)]) ?_
  obtain ⟨cm', mm', r, hc1, hm1, hrel'⟩ := hSt n cap cm mm (xs (i + 1)) (xs (i + 2)) (xs (i + 3)) hn hrel
  refine L_C (As := [.int (xs (i + 1)), .int (xs (i + 2)), .int (xs (i + 3))]) (rest := []) X w (kX8_way (cap := cap) l D ca ad1 cm (xs (i + 1)) (xs (i + 2)) (xs (i + 3)) hc1) (gTV tw_652 tw_653 tw_654 tw_65 tw_655) hdX8_way ⟨Nat.le_of_ble_eq_true rfl, Nat.le_of_ble_eq_true rfl⟩ rfl hl.1 rfl (Nat.le_of_ble_eq_true rfl) dL_law_676 ⟨by show _ ≤ 601024; omega, by show _ ≤ 7293034; omega⟩ (fun H locs w => ?_)
  refine lv_aload_n X.1 X.2.1 dL_law_679 rfl (lv_at hl 2 rfl) ?_
  refine lv_aload_n X.1 X.2.1 dL_law_680 rfl (lv_at hl 0 rfl) ?_
  refine lv_iload X.1 X.2.1 dL_law_681 (lv_at hl 4 rfl) ?_
  refine lv_iconst (v := (1 : Int32)) X.1 X.2.1 dL_law_683 (by decide) ?_
  refine lv_iadd X.1 X.2.1 dL_law_684 ?_
  refine lv_name (y := nI (i + 1)) (nI_add i 1) ?_
  refine va_sld X.1 X.2.1 hX hbl hbA w.2.2.2.1 (vp_in_nI (show i + 1 < L by omega) (by omega)) dL_law_685 ?_
  refine lv_name (y := xs (i + 1)) (by rw [nI_clamp (by omega)]) ?_
  refine lv_aload_n X.1 X.2.1 dL_law_686 rfl (lv_at hl 0 rfl) ?_
  refine lv_iload X.1 X.2.1 dL_law_687 (lv_at hl 4 rfl) ?_
  refine lv_iconst (v := (2 : Int32)) X.1 X.2.1 dL_law_689 (by decide) ?_
  refine lv_iadd X.1 X.2.1 dL_law_690 ?_
  refine lv_name (y := nI (i + 2)) (nI_add i 2) ?_
  refine va_sld X.1 X.2.1 hX hbl hbA w.2.2.2.1 (vp_in_nI (show i + 2 < L by omega) (by omega)) dL_law_691 ?_
  refine lv_name (y := xs (i + 2)) (by rw [nI_clamp (by omega)]) ?_
  refine lv_aload_n X.1 X.2.1 dL_law_692 rfl (lv_at hl 0 rfl) ?_
  refine lv_iload X.1 X.2.1 dL_law_693 (lv_at hl 4 rfl) ?_
  refine lv_iconst (v := (3 : Int32)) X.1 X.2.1 dL_law_695 (by decide) ?_
  refine lv_iadd X.1 X.2.1 dL_law_696 ?_
  refine lv_name (y := nI (i + 3)) (nI_add i 3) ?_
  refine va_sld X.1 X.2.1 hX hbl hbA w.2.2.2.1 (vp_in_nI (show i + 3 < L by omega) (by omega)) dL_law_697 ?_
  refine lv_name (y := xs (i + 3)) (by rw [nI_clamp (by omega)]) ?_
  refine L_M (As := [.int (xs (i + 1)), .int (xs (i + 2)), .int (xs (i + 3))]) (rest := [.int r]) X w (kX9_way l D ca ad2 mm (xs (i + 1)) (xs (i + 2)) (xs (i + 3)) hm1) (gTV tw_1146 tw_1147 tw_1148 tw_75 tw_1149) hdX9_way ⟨Nat.le_of_ble_eq_true rfl, Nat.le_of_ble_eq_true rfl⟩ rfl hl.1 rfl (Nat.le_of_ble_eq_true rfl) dL_law_698 ⟨by show _ ≤ 601024; omega, by show _ ≤ 7293034; omega⟩ (fun H locs w => ?_)
  refine lv_icmp_eq (tgt := 1137) X.1 X.2.1 dL_law_701 (by decide) (fun _ => ?_) (fun c1 => absurd rfl c1)
  exact kk _ _ _ _ _ _ _ _ _ _ (by omega) (by omega) hrel' w hl
/-- what the pure proof owes for of -/
def St_of (Rel : Nat → Nat → Mm → Mm → Prop) : Prop := ∀ (n cap : Nat) (cm mm : Mm) (a1 : Int32) (a2 : Int32) (a3 : Int32), n < 512 → Rel n cap cm mm → ∃ (mm' : Mm) (r : Int32), fX8_of cm a1 a2 a3 = some r ∧ fX9_of mm a1 a2 a3 = some (mm', r) ∧ Rel (n + 1) cap cm mm'
set_option maxRecDepth 100000 in
set_option maxHeartbeats 4000000 in
theorem law_of {p : Program} {l : Launch} {e : Env} {s : State} {m : MethodId} {below : List Frame} {meth : Method} {c : Code} {D : va_G} {ca : Nat → ClassId} {ad1 ad2 : Nat → Nat} {cap q3 : Nat} {cm mm : Mm} {fo : Nat → Int64} {cL : ClassId} {b L : Nat} {xs : Nat → Int32} {i n cells slots : Nat} {H : Heap} {locs : List Loc} {ls : Array Slot} {Q : State → Prop} {Rel : Nat → Nat → Mm → Mm → Prop} (X : CallFix p m c cL_law 7 s #[Value.ref b] TT RL) (hX : va_X b L xs s s.heap) (hbl : b < s.heap.size) (hi : i + 6 ≤ L) (hL : L ≤ 3072) (hSt : St_of Rel) (hn : n < 512) (hrel : Rel n cap cm mm) (w : LW D ca ad1 cap cm ad2 mm q3 fo cL s H locs) (hl : lv_has ls 7 [(0, .ref b), (1, .ref (ad1 0)), (2, .ref (ad2 0)), (3, .ref q3), (4, .int (nI i))]) (hc : cells + 2 ≤ 601024) (hs : slots + 1024 ≤ 7293034) (kk : ∀ (u : Nat → Nat) (cap' : Nat) (cm' mm' : Mm) (fo' : Nat → Int64) (H : Heap) (locs : List Loc) (ls : Array Slot) (cells' slots' : Nat), cells' ≤ cells + 2 → slots' ≤ slots + 1024 → Rel (n + 1) cap' cm' mm' → LW D ca u cap' cm' ad2 mm' q3 fo' cL s H locs → lv_has ls 7 [(0, .ref b), (1, .ref (u 0)), (2, .ref (ad2 0)), (3, .ref q3), (4, .int (nI i))] → W p l e room_1 s m #[Value.ref b] below meth c H locs cells' slots' Q (F0 m 1137 ls [])) : W p l e room_1 s m #[Value.ref b] below meth c H locs cells slots Q (F0 m 706 ls []) := by
  have hbA : ¬ (fun q : Nat => s.heap.size ≤ q) b := Nat.not_le.mpr hbl
  refine lv_aload_n X.1 X.2.1 dL_law_706 rfl (lv_at hl 1 rfl) ?_
  refine lv_aload_n X.1 X.2.1 dL_law_707 rfl (lv_at hl 0 rfl) ?_
  refine lv_iload X.1 X.2.1 dL_law_708 (lv_at hl 4 rfl) ?_
  refine lv_iconst (v := (1 : Int32)) X.1 X.2.1 dL_law_710 (by decide) ?_
  refine lv_iadd X.1 X.2.1 dL_law_711 ?_
  refine lv_name (y := nI (i + 1)) (nI_add i 1) ?_
  refine va_sld X.1 X.2.1 hX hbl hbA w.2.2.2.1 (vp_in_nI (show i + 1 < L by omega) (by omega)) dL_law_712 ?_
  refine lv_name (y := xs (i + 1)) (by rw [nI_clamp (by omega)]) ?_
  refine lv_aload_n X.1 X.2.1 dL_law_713 rfl (lv_at hl 0 rfl) ?_
  refine lv_iload X.1 X.2.1 dL_law_714 (lv_at hl 4 rfl) ?_
  refine lv_iconst (v := (2 : Int32)) X.1 X.2.1 dL_law_716 (by decide) ?_
  refine lv_iadd X.1 X.2.1 dL_law_717 ?_
  refine lv_name (y := nI (i + 2)) (nI_add i 2) ?_
  refine va_sld X.1 X.2.1 hX hbl hbA w.2.2.2.1 (vp_in_nI (show i + 2 < L by omega) (by omega)) dL_law_718 ?_
  refine lv_name (y := xs (i + 2)) (by rw [nI_clamp (by omega)]) ?_
  refine lv_aload_n X.1 X.2.1 dL_law_719 rfl (lv_at hl 0 rfl) ?_
  refine lv_iload X.1 X.2.1 dL_law_720 (lv_at hl 4 rfl) ?_
  refine lv_iconst (v := (3 : Int32)) X.1 X.2.1 dL_law_722 (by decide) ?_
  refine lv_iadd X.1 X.2.1 dL_law_723 ?_
  refine lv_name (y := nI (i + 3)) (nI_add i 3) ?_
  refine va_sld X.1 X.2.1 hX hbl hbA w.2.2.2.1 (vp_in_nI (show i + 3 < L by omega) (by omega)) dL_law_724 ?_
  refine lv_name (y := xs (i + 3)) (by rw [nI_clamp (by omega)]) ?_
  obtain ⟨mm', r, hc1, hm1, hrel'⟩ := hSt n cap cm mm (xs (i + 1)) (xs (i + 2)) (xs (i + 3)) hn hrel
  refine L_C (As := [.int (xs (i + 1)), .int (xs (i + 2)), .int (xs (i + 3))]) (rest := []) X w (kX8_of (cap := cap) l D ca ad1 cm (xs (i + 1)) (xs (i + 2)) (xs (i + 3)) hc1) (gTV tw_674 tw_675 tw_676 tw_65 tw_677) hdX8_of ⟨Nat.le_of_ble_eq_true rfl, Nat.le_of_ble_eq_true rfl⟩ rfl hl.1 rfl (Nat.le_of_ble_eq_true rfl) dL_law_725 ⟨by show _ ≤ 601024; omega, by show _ ≤ 7293034; omega⟩ (fun H locs w => ?_)
  refine lv_aload_n X.1 X.2.1 dL_law_728 rfl (lv_at hl 2 rfl) ?_
  refine lv_aload_n X.1 X.2.1 dL_law_729 rfl (lv_at hl 0 rfl) ?_
  refine lv_iload X.1 X.2.1 dL_law_730 (lv_at hl 4 rfl) ?_
  refine lv_iconst (v := (1 : Int32)) X.1 X.2.1 dL_law_732 (by decide) ?_
  refine lv_iadd X.1 X.2.1 dL_law_733 ?_
  refine lv_name (y := nI (i + 1)) (nI_add i 1) ?_
  refine va_sld X.1 X.2.1 hX hbl hbA w.2.2.2.1 (vp_in_nI (show i + 1 < L by omega) (by omega)) dL_law_734 ?_
  refine lv_name (y := xs (i + 1)) (by rw [nI_clamp (by omega)]) ?_
  refine lv_aload_n X.1 X.2.1 dL_law_735 rfl (lv_at hl 0 rfl) ?_
  refine lv_iload X.1 X.2.1 dL_law_736 (lv_at hl 4 rfl) ?_
  refine lv_iconst (v := (2 : Int32)) X.1 X.2.1 dL_law_738 (by decide) ?_
  refine lv_iadd X.1 X.2.1 dL_law_739 ?_
  refine lv_name (y := nI (i + 2)) (nI_add i 2) ?_
  refine va_sld X.1 X.2.1 hX hbl hbA w.2.2.2.1 (vp_in_nI (show i + 2 < L by omega) (by omega)) dL_law_740 ?_
  refine lv_name (y := xs (i + 2)) (by rw [nI_clamp (by omega)]) ?_
  refine lv_aload_n X.1 X.2.1 dL_law_741 rfl (lv_at hl 0 rfl) ?_
  refine lv_iload X.1 X.2.1 dL_law_742 (lv_at hl 4 rfl) ?_
  refine lv_iconst (v := (3 : Int32)) X.1 X.2.1 dL_law_744 (by decide) ?_
  refine lv_iadd X.1 X.2.1 dL_law_745 ?_
  refine lv_name (y := nI (i + 3)) (nI_add i 3) ?_
  refine va_sld X.1 X.2.1 hX hbl hbA w.2.2.2.1 (vp_in_nI (show i + 3 < L by omega) (by omega)) dL_law_746 ?_
  refine lv_name (y := xs (i + 3)) (by rw [nI_clamp (by omega)]) ?_
  refine L_M (As := [.int (xs (i + 1)), .int (xs (i + 2)), .int (xs (i + 3))]) (rest := [.int r]) X w (kX9_of l D ca ad2 mm (xs (i + 1)) (xs (i + 2)) (xs (i + 3)) hm1) (gTV tw_1162 tw_1163 tw_1164 tw_75 tw_1165) hdX9_of ⟨Nat.le_of_ble_eq_true rfl, Nat.le_of_ble_eq_true rfl⟩ rfl hl.1 rfl (Nat.le_of_ble_eq_true rfl) dL_law_747 ⟨by show _ ≤ 601024; omega, by show _ ≤ 7293034; omega⟩ (fun H locs w => ?_)
  refine lv_icmp_eq (tgt := 1137) X.1 X.2.1 dL_law_750 (by decide) (fun _ => ?_) (fun c1 => absurd rfl c1)
  exact kk _ _ _ _ _ _ _ _ _ _ (by omega) (by omega) hrel' w hl
/-- what the pure proof owes for permitted -/
def St_permitted (Rel : Nat → Nat → Mm → Mm → Prop) : Prop := ∀ (n cap : Nat) (cm mm : Mm) (a1 : Int32) (a2 : Int32) (a3 : Int32), n < 512 → Rel n cap cm mm → ∃ (cm' mm' : Mm) (r : Int32), fX8_permitted cap cm a1 a2 a3 = some (cm', r) ∧ fX9_permitted mm a1 a2 a3 = some (mm', r) ∧ Rel (n + 1) cap cm' mm'
set_option maxRecDepth 100000 in
set_option maxHeartbeats 4000000 in
theorem law_permitted {p : Program} {l : Launch} {e : Env} {s : State} {m : MethodId} {below : List Frame} {meth : Method} {c : Code} {D : va_G} {ca : Nat → ClassId} {ad1 ad2 : Nat → Nat} {cap q3 : Nat} {cm mm : Mm} {fo : Nat → Int64} {cL : ClassId} {b L : Nat} {xs : Nat → Int32} {i n cells slots : Nat} {H : Heap} {locs : List Loc} {ls : Array Slot} {Q : State → Prop} {Rel : Nat → Nat → Mm → Mm → Prop} (X : CallFix p m c cL_law 7 s #[Value.ref b] TT RL) (hX : va_X b L xs s s.heap) (hbl : b < s.heap.size) (hi : i + 6 ≤ L) (hL : L ≤ 3072) (hSt : St_permitted Rel) (hn : n < 512) (hrel : Rel n cap cm mm) (w : LW D ca ad1 cap cm ad2 mm q3 fo cL s H locs) (hl : lv_has ls 7 [(0, .ref b), (1, .ref (ad1 0)), (2, .ref (ad2 0)), (3, .ref q3), (4, .int (nI i))]) (hc : cells + 2 ≤ 601024) (hs : slots + 1024 ≤ 7293034) (kk : ∀ (u : Nat → Nat) (cap' : Nat) (cm' mm' : Mm) (fo' : Nat → Int64) (H : Heap) (locs : List Loc) (ls : Array Slot) (cells' slots' : Nat), cells' ≤ cells + 2 → slots' ≤ slots + 1024 → Rel (n + 1) cap' cm' mm' → LW D ca u cap' cm' ad2 mm' q3 fo' cL s H locs → lv_has ls 7 [(0, .ref b), (1, .ref (u 0)), (2, .ref (ad2 0)), (3, .ref q3), (4, .int (nI i))] → W p l e room_1 s m #[Value.ref b] below meth c H locs cells' slots' Q (F0 m 1137 ls [])) : W p l e room_1 s m #[Value.ref b] below meth c H locs cells slots Q (F0 m 891 ls []) := by
  have hbA : ¬ (fun q : Nat => s.heap.size ≤ q) b := Nat.not_le.mpr hbl
  refine lv_aload_n X.1 X.2.1 dL_law_891 rfl (lv_at hl 1 rfl) ?_
  refine lv_aload_n X.1 X.2.1 dL_law_892 rfl (lv_at hl 0 rfl) ?_
  refine lv_iload X.1 X.2.1 dL_law_893 (lv_at hl 4 rfl) ?_
  refine lv_iconst (v := (1 : Int32)) X.1 X.2.1 dL_law_895 (by decide) ?_
  refine lv_iadd X.1 X.2.1 dL_law_896 ?_
  refine lv_name (y := nI (i + 1)) (nI_add i 1) ?_
  refine va_sld X.1 X.2.1 hX hbl hbA w.2.2.2.1 (vp_in_nI (show i + 1 < L by omega) (by omega)) dL_law_897 ?_
  refine lv_name (y := xs (i + 1)) (by rw [nI_clamp (by omega)]) ?_
  refine lv_aload_n X.1 X.2.1 dL_law_898 rfl (lv_at hl 0 rfl) ?_
  refine lv_iload X.1 X.2.1 dL_law_899 (lv_at hl 4 rfl) ?_
  refine lv_iconst (v := (2 : Int32)) X.1 X.2.1 dL_law_901 (by decide) ?_
  refine lv_iadd X.1 X.2.1 dL_law_902 ?_
  refine lv_name (y := nI (i + 2)) (nI_add i 2) ?_
  refine va_sld X.1 X.2.1 hX hbl hbA w.2.2.2.1 (vp_in_nI (show i + 2 < L by omega) (by omega)) dL_law_903 ?_
  refine lv_name (y := xs (i + 2)) (by rw [nI_clamp (by omega)]) ?_
  refine lv_aload_n X.1 X.2.1 dL_law_904 rfl (lv_at hl 0 rfl) ?_
  refine lv_iload X.1 X.2.1 dL_law_905 (lv_at hl 4 rfl) ?_
  refine lv_iconst (v := (3 : Int32)) X.1 X.2.1 dL_law_907 (by decide) ?_
  refine lv_iadd X.1 X.2.1 dL_law_908 ?_
  refine lv_name (y := nI (i + 3)) (nI_add i 3) ?_
  refine va_sld X.1 X.2.1 hX hbl hbA w.2.2.2.1 (vp_in_nI (show i + 3 < L by omega) (by omega)) dL_law_909 ?_
  refine lv_name (y := xs (i + 3)) (by rw [nI_clamp (by omega)]) ?_
  obtain ⟨cm', mm', r, hc1, hm1, hrel'⟩ := hSt n cap cm mm (xs (i + 1)) (xs (i + 2)) (xs (i + 3)) hn hrel
  refine L_C (As := [.int (xs (i + 1)), .int (xs (i + 2)), .int (xs (i + 3))]) (rest := []) X w (kX8_permitted (cap := cap) l D ca ad1 cm (xs (i + 1)) (xs (i + 2)) (xs (i + 3)) hc1) (gTV tw_678 tw_679 tw_680 tw_65 tw_681) hdX8_permitted ⟨Nat.le_of_ble_eq_true rfl, Nat.le_of_ble_eq_true rfl⟩ rfl hl.1 rfl (Nat.le_of_ble_eq_true rfl) dL_law_910 ⟨by show _ ≤ 601024; omega, by show _ ≤ 7293034; omega⟩ (fun H locs w => ?_)
  refine lv_aload_n X.1 X.2.1 dL_law_913 rfl (lv_at hl 2 rfl) ?_
  refine lv_aload_n X.1 X.2.1 dL_law_914 rfl (lv_at hl 0 rfl) ?_
  refine lv_iload X.1 X.2.1 dL_law_915 (lv_at hl 4 rfl) ?_
  refine lv_iconst (v := (1 : Int32)) X.1 X.2.1 dL_law_917 (by decide) ?_
  refine lv_iadd X.1 X.2.1 dL_law_918 ?_
  refine lv_name (y := nI (i + 1)) (nI_add i 1) ?_
  refine va_sld X.1 X.2.1 hX hbl hbA w.2.2.2.1 (vp_in_nI (show i + 1 < L by omega) (by omega)) dL_law_919 ?_
  refine lv_name (y := xs (i + 1)) (by rw [nI_clamp (by omega)]) ?_
  refine lv_aload_n X.1 X.2.1 dL_law_920 rfl (lv_at hl 0 rfl) ?_
  refine lv_iload X.1 X.2.1 dL_law_921 (lv_at hl 4 rfl) ?_
  refine lv_iconst (v := (2 : Int32)) X.1 X.2.1 dL_law_923 (by decide) ?_
  refine lv_iadd X.1 X.2.1 dL_law_924 ?_
  refine lv_name (y := nI (i + 2)) (nI_add i 2) ?_
  refine va_sld X.1 X.2.1 hX hbl hbA w.2.2.2.1 (vp_in_nI (show i + 2 < L by omega) (by omega)) dL_law_925 ?_
  refine lv_name (y := xs (i + 2)) (by rw [nI_clamp (by omega)]) ?_
  refine lv_aload_n X.1 X.2.1 dL_law_926 rfl (lv_at hl 0 rfl) ?_
  refine lv_iload X.1 X.2.1 dL_law_927 (lv_at hl 4 rfl) ?_
  refine lv_iconst (v := (3 : Int32)) X.1 X.2.1 dL_law_929 (by decide) ?_
  refine lv_iadd X.1 X.2.1 dL_law_930 ?_
  refine lv_name (y := nI (i + 3)) (nI_add i 3) ?_
  refine va_sld X.1 X.2.1 hX hbl hbA w.2.2.2.1 (vp_in_nI (show i + 3 < L by omega) (by omega)) dL_law_931 ?_
  refine lv_name (y := xs (i + 3)) (by rw [nI_clamp (by omega)]) ?_
  refine L_M (As := [.int (xs (i + 1)), .int (xs (i + 2)), .int (xs (i + 3))]) (rest := [.int r]) X w (kX9_permitted l D ca ad2 mm (xs (i + 1)) (xs (i + 2)) (xs (i + 3)) hm1) (gTV tw_1186 tw_1187 tw_1188 tw_75 tw_1189) hdX9_permitted ⟨Nat.le_of_ble_eq_true rfl, Nat.le_of_ble_eq_true rfl⟩ rfl hl.1 rfl (Nat.le_of_ble_eq_true rfl) dL_law_932 ⟨by show _ ≤ 601024; omega, by show _ ≤ 7293034; omega⟩ (fun H locs w => ?_)
  refine lv_icmp_eq (tgt := 1137) X.1 X.2.1 dL_law_935 (by decide) (fun _ => ?_) (fun c1 => absurd rfl c1)
  exact kk _ _ _ _ _ _ _ _ _ _ (by omega) (by omega) hrel' w hl
/-- what the pure proof owes for many -/
def St_many (Rel : Nat → Nat → Mm → Mm → Prop) : Prop := ∀ (n cap : Nat) (cm mm : Mm) (a1 : Int32) (a2 : Int32), n < 512 → Rel n cap cm mm → ∃ (cm' mm' : Mm) (r : Int32), fX8_many cap cm a1 a2 = some (cm', r) ∧ fX9_many mm a1 a2 = some (mm', r) ∧ Rel (n + 1) cap cm' mm'
set_option maxRecDepth 100000 in
set_option maxHeartbeats 4000000 in
theorem law_many {p : Program} {l : Launch} {e : Env} {s : State} {m : MethodId} {below : List Frame} {meth : Method} {c : Code} {D : va_G} {ca : Nat → ClassId} {ad1 ad2 : Nat → Nat} {cap q3 : Nat} {cm mm : Mm} {fo : Nat → Int64} {cL : ClassId} {b L : Nat} {xs : Nat → Int32} {i n cells slots : Nat} {H : Heap} {locs : List Loc} {ls : Array Slot} {Q : State → Prop} {Rel : Nat → Nat → Mm → Mm → Prop} (X : CallFix p m c cL_law 7 s #[Value.ref b] TT RL) (hX : va_X b L xs s s.heap) (hbl : b < s.heap.size) (hi : i + 6 ≤ L) (hL : L ≤ 3072) (hSt : St_many Rel) (hn : n < 512) (hrel : Rel n cap cm mm) (w : LW D ca ad1 cap cm ad2 mm q3 fo cL s H locs) (hl : lv_has ls 7 [(0, .ref b), (1, .ref (ad1 0)), (2, .ref (ad2 0)), (3, .ref q3), (4, .int (nI i))]) (hc : cells + 2 ≤ 601024) (hs : slots + 1024 ≤ 7293034) (kk : ∀ (u : Nat → Nat) (cap' : Nat) (cm' mm' : Mm) (fo' : Nat → Int64) (H : Heap) (locs : List Loc) (ls : Array Slot) (cells' slots' : Nat), cells' ≤ cells + 2 → slots' ≤ slots + 1024 → Rel (n + 1) cap' cm' mm' → LW D ca u cap' cm' ad2 mm' q3 fo' cL s H locs → lv_has ls 7 [(0, .ref b), (1, .ref (u 0)), (2, .ref (ad2 0)), (3, .ref q3), (4, .int (nI i))] → W p l e room_1 s m #[Value.ref b] below meth c H locs cells' slots' Q (F0 m 1137 ls [])) : W p l e room_1 s m #[Value.ref b] below meth c H locs cells slots Q (F0 m 940 ls []) := by
  have hbA : ¬ (fun q : Nat => s.heap.size ≤ q) b := Nat.not_le.mpr hbl
  refine lv_aload_n X.1 X.2.1 dL_law_940 rfl (lv_at hl 1 rfl) ?_
  refine lv_aload_n X.1 X.2.1 dL_law_941 rfl (lv_at hl 0 rfl) ?_
  refine lv_iload X.1 X.2.1 dL_law_942 (lv_at hl 4 rfl) ?_
  refine lv_iconst (v := (1 : Int32)) X.1 X.2.1 dL_law_944 (by decide) ?_
  refine lv_iadd X.1 X.2.1 dL_law_945 ?_
  refine lv_name (y := nI (i + 1)) (nI_add i 1) ?_
  refine va_sld X.1 X.2.1 hX hbl hbA w.2.2.2.1 (vp_in_nI (show i + 1 < L by omega) (by omega)) dL_law_946 ?_
  refine lv_name (y := xs (i + 1)) (by rw [nI_clamp (by omega)]) ?_
  refine lv_aload_n X.1 X.2.1 dL_law_947 rfl (lv_at hl 0 rfl) ?_
  refine lv_iload X.1 X.2.1 dL_law_948 (lv_at hl 4 rfl) ?_
  refine lv_iconst (v := (2 : Int32)) X.1 X.2.1 dL_law_950 (by decide) ?_
  refine lv_iadd X.1 X.2.1 dL_law_951 ?_
  refine lv_name (y := nI (i + 2)) (nI_add i 2) ?_
  refine va_sld X.1 X.2.1 hX hbl hbA w.2.2.2.1 (vp_in_nI (show i + 2 < L by omega) (by omega)) dL_law_952 ?_
  refine lv_name (y := xs (i + 2)) (by rw [nI_clamp (by omega)]) ?_
  obtain ⟨cm', mm', r, hc1, hm1, hrel'⟩ := hSt n cap cm mm (xs (i + 1)) (xs (i + 2)) hn hrel
  refine L_C (As := [.int (xs (i + 1)), .int (xs (i + 2))]) (rest := []) X w (kX8_many (cap := cap) l D ca ad1 cm (xs (i + 1)) (xs (i + 2)) hc1) (gTV tw_743 tw_744 tw_745 tw_65 tw_746) hdX8_many ⟨Nat.le_of_ble_eq_true rfl, Nat.le_of_ble_eq_true rfl⟩ rfl hl.1 rfl (Nat.le_of_ble_eq_true rfl) dL_law_953 ⟨by show _ ≤ 601024; omega, by show _ ≤ 7293034; omega⟩ (fun H locs w => ?_)
  refine lv_aload_n X.1 X.2.1 dL_law_956 rfl (lv_at hl 2 rfl) ?_
  refine lv_aload_n X.1 X.2.1 dL_law_957 rfl (lv_at hl 0 rfl) ?_
  refine lv_iload X.1 X.2.1 dL_law_958 (lv_at hl 4 rfl) ?_
  refine lv_iconst (v := (1 : Int32)) X.1 X.2.1 dL_law_960 (by decide) ?_
  refine lv_iadd X.1 X.2.1 dL_law_961 ?_
  refine lv_name (y := nI (i + 1)) (nI_add i 1) ?_
  refine va_sld X.1 X.2.1 hX hbl hbA w.2.2.2.1 (vp_in_nI (show i + 1 < L by omega) (by omega)) dL_law_962 ?_
  refine lv_name (y := xs (i + 1)) (by rw [nI_clamp (by omega)]) ?_
  refine lv_aload_n X.1 X.2.1 dL_law_963 rfl (lv_at hl 0 rfl) ?_
  refine lv_iload X.1 X.2.1 dL_law_964 (lv_at hl 4 rfl) ?_
  refine lv_iconst (v := (2 : Int32)) X.1 X.2.1 dL_law_966 (by decide) ?_
  refine lv_iadd X.1 X.2.1 dL_law_967 ?_
  refine lv_name (y := nI (i + 2)) (nI_add i 2) ?_
  refine va_sld X.1 X.2.1 hX hbl hbA w.2.2.2.1 (vp_in_nI (show i + 2 < L by omega) (by omega)) dL_law_968 ?_
  refine lv_name (y := xs (i + 2)) (by rw [nI_clamp (by omega)]) ?_
  refine L_M (As := [.int (xs (i + 1)), .int (xs (i + 2))]) (rest := [.int r]) X w (kX9_many l D ca ad2 mm (xs (i + 1)) (xs (i + 2)) hm1) (gTV tw_1217 tw_1218 tw_1219 tw_75 tw_1220) hdX9_many ⟨Nat.le_of_ble_eq_true rfl, Nat.le_of_ble_eq_true rfl⟩ rfl hl.1 rfl (Nat.le_of_ble_eq_true rfl) dL_law_969 ⟨by show _ ≤ 601024; omega, by show _ ≤ 7293034; omega⟩ (fun H locs w => ?_)
  refine lv_icmp_eq (tgt := 1137) X.1 X.2.1 dL_law_972 (by decide) (fun _ => ?_) (fun c1 => absurd rfl c1)
  exact kk _ _ _ _ _ _ _ _ _ _ (by omega) (by omega) hrel' w hl
/-- what the pure proof owes for reverse -/
def St_reverse (Rel : Nat → Nat → Mm → Mm → Prop) : Prop := ∀ (n cap : Nat) (cm mm : Mm) (a1 : Int32) (a2 : Int32) (a3 : Int32), n < 512 → Rel n cap cm mm → ∃ (cm' mm' : Mm) (r : Int32), fX8_reverse cm a1 a2 a3 = some (cm', r) ∧ fX9_reverse mm a1 a2 a3 = some (mm', r) ∧ Rel (n + 1) cap cm' mm'
set_option maxRecDepth 100000 in
set_option maxHeartbeats 4000000 in
theorem law_reverse {p : Program} {l : Launch} {e : Env} {s : State} {m : MethodId} {below : List Frame} {meth : Method} {c : Code} {D : va_G} {ca : Nat → ClassId} {ad1 ad2 : Nat → Nat} {cap q3 : Nat} {cm mm : Mm} {fo : Nat → Int64} {cL : ClassId} {b L : Nat} {xs : Nat → Int32} {i n cells slots : Nat} {H : Heap} {locs : List Loc} {ls : Array Slot} {Q : State → Prop} {Rel : Nat → Nat → Mm → Mm → Prop} (X : CallFix p m c cL_law 7 s #[Value.ref b] TT RL) (hX : va_X b L xs s s.heap) (hbl : b < s.heap.size) (hi : i + 6 ≤ L) (hL : L ≤ 3072) (hSt : St_reverse Rel) (hn : n < 512) (hrel : Rel n cap cm mm) (w : LW D ca ad1 cap cm ad2 mm q3 fo cL s H locs) (hl : lv_has ls 7 [(0, .ref b), (1, .ref (ad1 0)), (2, .ref (ad2 0)), (3, .ref q3), (4, .int (nI i))]) (hc : cells + 2 ≤ 601024) (hs : slots + 1024 ≤ 7293034) (kk : ∀ (u : Nat → Nat) (cap' : Nat) (cm' mm' : Mm) (fo' : Nat → Int64) (H : Heap) (locs : List Loc) (ls : Array Slot) (cells' slots' : Nat), cells' ≤ cells + 2 → slots' ≤ slots + 1024 → Rel (n + 1) cap' cm' mm' → LW D ca u cap' cm' ad2 mm' q3 fo' cL s H locs → lv_has ls 7 [(0, .ref b), (1, .ref (u 0)), (2, .ref (ad2 0)), (3, .ref q3), (4, .int (nI i))] → W p l e room_1 s m #[Value.ref b] below meth c H locs cells' slots' Q (F0 m 1137 ls [])) : W p l e room_1 s m #[Value.ref b] below meth c H locs cells slots Q (F0 m 977 ls []) := by
  have hbA : ¬ (fun q : Nat => s.heap.size ≤ q) b := Nat.not_le.mpr hbl
  refine lv_aload_n X.1 X.2.1 dL_law_977 rfl (lv_at hl 1 rfl) ?_
  refine lv_aload_n X.1 X.2.1 dL_law_978 rfl (lv_at hl 0 rfl) ?_
  refine lv_iload X.1 X.2.1 dL_law_979 (lv_at hl 4 rfl) ?_
  refine lv_iconst (v := (1 : Int32)) X.1 X.2.1 dL_law_981 (by decide) ?_
  refine lv_iadd X.1 X.2.1 dL_law_982 ?_
  refine lv_name (y := nI (i + 1)) (nI_add i 1) ?_
  refine va_sld X.1 X.2.1 hX hbl hbA w.2.2.2.1 (vp_in_nI (show i + 1 < L by omega) (by omega)) dL_law_983 ?_
  refine lv_name (y := xs (i + 1)) (by rw [nI_clamp (by omega)]) ?_
  refine lv_aload_n X.1 X.2.1 dL_law_984 rfl (lv_at hl 0 rfl) ?_
  refine lv_iload X.1 X.2.1 dL_law_985 (lv_at hl 4 rfl) ?_
  refine lv_iconst (v := (2 : Int32)) X.1 X.2.1 dL_law_987 (by decide) ?_
  refine lv_iadd X.1 X.2.1 dL_law_988 ?_
  refine lv_name (y := nI (i + 2)) (nI_add i 2) ?_
  refine va_sld X.1 X.2.1 hX hbl hbA w.2.2.2.1 (vp_in_nI (show i + 2 < L by omega) (by omega)) dL_law_989 ?_
  refine lv_name (y := xs (i + 2)) (by rw [nI_clamp (by omega)]) ?_
  refine lv_aload_n X.1 X.2.1 dL_law_990 rfl (lv_at hl 0 rfl) ?_
  refine lv_iload X.1 X.2.1 dL_law_991 (lv_at hl 4 rfl) ?_
  refine lv_iconst (v := (3 : Int32)) X.1 X.2.1 dL_law_993 (by decide) ?_
  refine lv_iadd X.1 X.2.1 dL_law_994 ?_
  refine lv_name (y := nI (i + 3)) (nI_add i 3) ?_
  refine va_sld X.1 X.2.1 hX hbl hbA w.2.2.2.1 (vp_in_nI (show i + 3 < L by omega) (by omega)) dL_law_995 ?_
  refine lv_name (y := xs (i + 3)) (by rw [nI_clamp (by omega)]) ?_
  obtain ⟨cm', mm', r, hc1, hm1, hrel'⟩ := hSt n cap cm mm (xs (i + 1)) (xs (i + 2)) (xs (i + 3)) hn hrel
  refine L_C (As := [.int (xs (i + 1)), .int (xs (i + 2)), .int (xs (i + 3))]) (rest := []) X w (kX8_reverse (cap := cap) l D ca ad1 cm (xs (i + 1)) (xs (i + 2)) (xs (i + 3)) hc1) (gTV tw_757 tw_758 tw_759 tw_65 tw_760) hdX8_reverse ⟨Nat.le_of_ble_eq_true rfl, Nat.le_of_ble_eq_true rfl⟩ rfl hl.1 rfl (Nat.le_of_ble_eq_true rfl) dL_law_996 ⟨by show _ ≤ 601024; omega, by show _ ≤ 7293034; omega⟩ (fun H locs w => ?_)
  refine lv_aload_n X.1 X.2.1 dL_law_999 rfl (lv_at hl 2 rfl) ?_
  refine lv_aload_n X.1 X.2.1 dL_law_1000 rfl (lv_at hl 0 rfl) ?_
  refine lv_iload X.1 X.2.1 dL_law_1001 (lv_at hl 4 rfl) ?_
  refine lv_iconst (v := (1 : Int32)) X.1 X.2.1 dL_law_1003 (by decide) ?_
  refine lv_iadd X.1 X.2.1 dL_law_1004 ?_
  refine lv_name (y := nI (i + 1)) (nI_add i 1) ?_
  refine va_sld X.1 X.2.1 hX hbl hbA w.2.2.2.1 (vp_in_nI (show i + 1 < L by omega) (by omega)) dL_law_1005 ?_
  refine lv_name (y := xs (i + 1)) (by rw [nI_clamp (by omega)]) ?_
  refine lv_aload_n X.1 X.2.1 dL_law_1006 rfl (lv_at hl 0 rfl) ?_
  refine lv_iload X.1 X.2.1 dL_law_1007 (lv_at hl 4 rfl) ?_
  refine lv_iconst (v := (2 : Int32)) X.1 X.2.1 dL_law_1009 (by decide) ?_
  refine lv_iadd X.1 X.2.1 dL_law_1010 ?_
  refine lv_name (y := nI (i + 2)) (nI_add i 2) ?_
  refine va_sld X.1 X.2.1 hX hbl hbA w.2.2.2.1 (vp_in_nI (show i + 2 < L by omega) (by omega)) dL_law_1011 ?_
  refine lv_name (y := xs (i + 2)) (by rw [nI_clamp (by omega)]) ?_
  refine lv_aload_n X.1 X.2.1 dL_law_1012 rfl (lv_at hl 0 rfl) ?_
  refine lv_iload X.1 X.2.1 dL_law_1013 (lv_at hl 4 rfl) ?_
  refine lv_iconst (v := (3 : Int32)) X.1 X.2.1 dL_law_1015 (by decide) ?_
  refine lv_iadd X.1 X.2.1 dL_law_1016 ?_
  refine lv_name (y := nI (i + 3)) (nI_add i 3) ?_
  refine va_sld X.1 X.2.1 hX hbl hbA w.2.2.2.1 (vp_in_nI (show i + 3 < L by omega) (by omega)) dL_law_1017 ?_
  refine lv_name (y := xs (i + 3)) (by rw [nI_clamp (by omega)]) ?_
  refine L_M (As := [.int (xs (i + 1)), .int (xs (i + 2)), .int (xs (i + 3))]) (rest := [.int r]) X w (kX9_reverse l D ca ad2 mm (xs (i + 1)) (xs (i + 2)) (xs (i + 3)) hm1) (gTV tw_1221 tw_1222 tw_1223 tw_75 tw_1224) hdX9_reverse ⟨Nat.le_of_ble_eq_true rfl, Nat.le_of_ble_eq_true rfl⟩ rfl hl.1 rfl (Nat.le_of_ble_eq_true rfl) dL_law_1018 ⟨by show _ ≤ 601024; omega, by show _ ≤ 7293034; omega⟩ (fun H locs w => ?_)
  refine lv_icmp_eq (tgt := 1137) X.1 X.2.1 dL_law_1021 (by decide) (fun _ => ?_) (fun c1 => absurd rfl c1)
  exact kk _ _ _ _ _ _ _ _ _ _ (by omega) (by omega) hrel' w hl
/-- what the pure proof owes for through -/
def St_through (Rel : Nat → Nat → Mm → Mm → Prop) : Prop := ∀ (n cap : Nat) (cm mm : Mm) (a1 : Int32) (a2 : Int32) (a3 : Int32), n < 512 → Rel n cap cm mm → ∃ (cm' mm' : Mm) (r : Int32), fX8_through cm a1 a2 a3 = some (cm', r) ∧ fX9_through mm a1 a2 a3 = some (mm', r) ∧ Rel (n + 1) cap cm' mm'
set_option maxRecDepth 100000 in
set_option maxHeartbeats 4000000 in
theorem law_through {p : Program} {l : Launch} {e : Env} {s : State} {m : MethodId} {below : List Frame} {meth : Method} {c : Code} {D : va_G} {ca : Nat → ClassId} {ad1 ad2 : Nat → Nat} {cap q3 : Nat} {cm mm : Mm} {fo : Nat → Int64} {cL : ClassId} {b L : Nat} {xs : Nat → Int32} {i n cells slots : Nat} {H : Heap} {locs : List Loc} {ls : Array Slot} {Q : State → Prop} {Rel : Nat → Nat → Mm → Mm → Prop} (X : CallFix p m c cL_law 7 s #[Value.ref b] TT RL) (hX : va_X b L xs s s.heap) (hbl : b < s.heap.size) (hi : i + 6 ≤ L) (hL : L ≤ 3072) (hSt : St_through Rel) (hn : n < 512) (hrel : Rel n cap cm mm) (w : LW D ca ad1 cap cm ad2 mm q3 fo cL s H locs) (hl : lv_has ls 7 [(0, .ref b), (1, .ref (ad1 0)), (2, .ref (ad2 0)), (3, .ref q3), (4, .int (nI i))]) (hc : cells + 2 ≤ 601024) (hs : slots + 1024 ≤ 7293034) (kk : ∀ (u : Nat → Nat) (cap' : Nat) (cm' mm' : Mm) (fo' : Nat → Int64) (H : Heap) (locs : List Loc) (ls : Array Slot) (cells' slots' : Nat), cells' ≤ cells + 2 → slots' ≤ slots + 1024 → Rel (n + 1) cap' cm' mm' → LW D ca u cap' cm' ad2 mm' q3 fo' cL s H locs → lv_has ls 7 [(0, .ref b), (1, .ref (u 0)), (2, .ref (ad2 0)), (3, .ref q3), (4, .int (nI i))] → W p l e room_1 s m #[Value.ref b] below meth c H locs cells' slots' Q (F0 m 1137 ls [])) : W p l e room_1 s m #[Value.ref b] below meth c H locs cells slots Q (F0 m 1026 ls []) := by
  have hbA : ¬ (fun q : Nat => s.heap.size ≤ q) b := Nat.not_le.mpr hbl
  refine lv_aload_n X.1 X.2.1 dL_law_1026 rfl (lv_at hl 1 rfl) ?_
  refine lv_aload_n X.1 X.2.1 dL_law_1027 rfl (lv_at hl 0 rfl) ?_
  refine lv_iload X.1 X.2.1 dL_law_1028 (lv_at hl 4 rfl) ?_
  refine lv_iconst (v := (1 : Int32)) X.1 X.2.1 dL_law_1030 (by decide) ?_
  refine lv_iadd X.1 X.2.1 dL_law_1031 ?_
  refine lv_name (y := nI (i + 1)) (nI_add i 1) ?_
  refine va_sld X.1 X.2.1 hX hbl hbA w.2.2.2.1 (vp_in_nI (show i + 1 < L by omega) (by omega)) dL_law_1032 ?_
  refine lv_name (y := xs (i + 1)) (by rw [nI_clamp (by omega)]) ?_
  refine lv_aload_n X.1 X.2.1 dL_law_1033 rfl (lv_at hl 0 rfl) ?_
  refine lv_iload X.1 X.2.1 dL_law_1034 (lv_at hl 4 rfl) ?_
  refine lv_iconst (v := (2 : Int32)) X.1 X.2.1 dL_law_1036 (by decide) ?_
  refine lv_iadd X.1 X.2.1 dL_law_1037 ?_
  refine lv_name (y := nI (i + 2)) (nI_add i 2) ?_
  refine va_sld X.1 X.2.1 hX hbl hbA w.2.2.2.1 (vp_in_nI (show i + 2 < L by omega) (by omega)) dL_law_1038 ?_
  refine lv_name (y := xs (i + 2)) (by rw [nI_clamp (by omega)]) ?_
  refine lv_aload_n X.1 X.2.1 dL_law_1039 rfl (lv_at hl 0 rfl) ?_
  refine lv_iload X.1 X.2.1 dL_law_1040 (lv_at hl 4 rfl) ?_
  refine lv_iconst (v := (3 : Int32)) X.1 X.2.1 dL_law_1042 (by decide) ?_
  refine lv_iadd X.1 X.2.1 dL_law_1043 ?_
  refine lv_name (y := nI (i + 3)) (nI_add i 3) ?_
  refine va_sld X.1 X.2.1 hX hbl hbA w.2.2.2.1 (vp_in_nI (show i + 3 < L by omega) (by omega)) dL_law_1044 ?_
  refine lv_name (y := xs (i + 3)) (by rw [nI_clamp (by omega)]) ?_
  obtain ⟨cm', mm', r, hc1, hm1, hrel'⟩ := hSt n cap cm mm (xs (i + 1)) (xs (i + 2)) (xs (i + 3)) hn hrel
  refine L_C (As := [.int (xs (i + 1)), .int (xs (i + 2)), .int (xs (i + 3))]) (rest := []) X w (kX8_through (cap := cap) l D ca ad1 cm (xs (i + 1)) (xs (i + 2)) (xs (i + 3)) hc1) (gTV tw_761 tw_762 tw_763 tw_65 tw_764) hdX8_through ⟨Nat.le_of_ble_eq_true rfl, Nat.le_of_ble_eq_true rfl⟩ rfl hl.1 rfl (Nat.le_of_ble_eq_true rfl) dL_law_1045 ⟨by show _ ≤ 601024; omega, by show _ ≤ 7293034; omega⟩ (fun H locs w => ?_)
  refine lv_aload_n X.1 X.2.1 dL_law_1048 rfl (lv_at hl 2 rfl) ?_
  refine lv_aload_n X.1 X.2.1 dL_law_1049 rfl (lv_at hl 0 rfl) ?_
  refine lv_iload X.1 X.2.1 dL_law_1050 (lv_at hl 4 rfl) ?_
  refine lv_iconst (v := (1 : Int32)) X.1 X.2.1 dL_law_1052 (by decide) ?_
  refine lv_iadd X.1 X.2.1 dL_law_1053 ?_
  refine lv_name (y := nI (i + 1)) (nI_add i 1) ?_
  refine va_sld X.1 X.2.1 hX hbl hbA w.2.2.2.1 (vp_in_nI (show i + 1 < L by omega) (by omega)) dL_law_1054 ?_
  refine lv_name (y := xs (i + 1)) (by rw [nI_clamp (by omega)]) ?_
  refine lv_aload_n X.1 X.2.1 dL_law_1055 rfl (lv_at hl 0 rfl) ?_
  refine lv_iload X.1 X.2.1 dL_law_1056 (lv_at hl 4 rfl) ?_
  refine lv_iconst (v := (2 : Int32)) X.1 X.2.1 dL_law_1058 (by decide) ?_
  refine lv_iadd X.1 X.2.1 dL_law_1059 ?_
  refine lv_name (y := nI (i + 2)) (nI_add i 2) ?_
  refine va_sld X.1 X.2.1 hX hbl hbA w.2.2.2.1 (vp_in_nI (show i + 2 < L by omega) (by omega)) dL_law_1060 ?_
  refine lv_name (y := xs (i + 2)) (by rw [nI_clamp (by omega)]) ?_
  refine lv_aload_n X.1 X.2.1 dL_law_1061 rfl (lv_at hl 0 rfl) ?_
  refine lv_iload X.1 X.2.1 dL_law_1062 (lv_at hl 4 rfl) ?_
  refine lv_iconst (v := (3 : Int32)) X.1 X.2.1 dL_law_1064 (by decide) ?_
  refine lv_iadd X.1 X.2.1 dL_law_1065 ?_
  refine lv_name (y := nI (i + 3)) (nI_add i 3) ?_
  refine va_sld X.1 X.2.1 hX hbl hbA w.2.2.2.1 (vp_in_nI (show i + 3 < L by omega) (by omega)) dL_law_1066 ?_
  refine lv_name (y := xs (i + 3)) (by rw [nI_clamp (by omega)]) ?_
  refine L_M (As := [.int (xs (i + 1)), .int (xs (i + 2)), .int (xs (i + 3))]) (rest := [.int r]) X w (kX9_through l D ca ad2 mm (xs (i + 1)) (xs (i + 2)) (xs (i + 3)) hm1) (gTV tw_1225 tw_1226 tw_1227 tw_75 tw_1228) hdX9_through ⟨Nat.le_of_ble_eq_true rfl, Nat.le_of_ble_eq_true rfl⟩ rfl hl.1 rfl (Nat.le_of_ble_eq_true rfl) dL_law_1067 ⟨by show _ ≤ 601024; omega, by show _ ≤ 7293034; omega⟩ (fun H locs w => ?_)
  refine lv_icmp_eq (tgt := 1137) X.1 X.2.1 dL_law_1070 (by decide) (fun _ => ?_) (fun c1 => absurd rfl c1)
  exact kk _ _ _ _ _ _ _ _ _ _ (by omega) (by omega) hrel' w hl
/-- what the pure proof owes for space -/
def St_space (Rel : Nat → Nat → Mm → Mm → Prop) : Prop := ∀ (n cap : Nat) (cm mm : Mm) (a1 : Int32) (a2 : Int32), n < 512 → Rel n cap cm mm → ∃ (mm' : Mm) (r : Int32), fX8_space cm a1 a2 = some r ∧ fX9_space mm a1 a2 = some (mm', r) ∧ Rel (n + 1) cap cm mm'
set_option maxRecDepth 100000 in
set_option maxHeartbeats 4000000 in
theorem law_space {p : Program} {l : Launch} {e : Env} {s : State} {m : MethodId} {below : List Frame} {meth : Method} {c : Code} {D : va_G} {ca : Nat → ClassId} {ad1 ad2 : Nat → Nat} {cap q3 : Nat} {cm mm : Mm} {fo : Nat → Int64} {cL : ClassId} {b L : Nat} {xs : Nat → Int32} {i n cells slots : Nat} {H : Heap} {locs : List Loc} {ls : Array Slot} {Q : State → Prop} {Rel : Nat → Nat → Mm → Mm → Prop} (X : CallFix p m c cL_law 7 s #[Value.ref b] TT RL) (hX : va_X b L xs s s.heap) (hbl : b < s.heap.size) (hi : i + 6 ≤ L) (hL : L ≤ 3072) (hSt : St_space Rel) (hn : n < 512) (hrel : Rel n cap cm mm) (w : LW D ca ad1 cap cm ad2 mm q3 fo cL s H locs) (hl : lv_has ls 7 [(0, .ref b), (1, .ref (ad1 0)), (2, .ref (ad2 0)), (3, .ref q3), (4, .int (nI i))]) (hc : cells + 2 ≤ 601024) (hs : slots + 1024 ≤ 7293034) (kk : ∀ (u : Nat → Nat) (cap' : Nat) (cm' mm' : Mm) (fo' : Nat → Int64) (H : Heap) (locs : List Loc) (ls : Array Slot) (cells' slots' : Nat), cells' ≤ cells + 2 → slots' ≤ slots + 1024 → Rel (n + 1) cap' cm' mm' → LW D ca u cap' cm' ad2 mm' q3 fo' cL s H locs → lv_has ls 7 [(0, .ref b), (1, .ref (u 0)), (2, .ref (ad2 0)), (3, .ref q3), (4, .int (nI i))] → W p l e room_1 s m #[Value.ref b] below meth c H locs cells' slots' Q (F0 m 1137 ls [])) : W p l e room_1 s m #[Value.ref b] below meth c H locs cells slots Q (F0 m 1075 ls []) := by
  have hbA : ¬ (fun q : Nat => s.heap.size ≤ q) b := Nat.not_le.mpr hbl
  refine lv_aload_n X.1 X.2.1 dL_law_1075 rfl (lv_at hl 1 rfl) ?_
  refine lv_aload_n X.1 X.2.1 dL_law_1076 rfl (lv_at hl 0 rfl) ?_
  refine lv_iload X.1 X.2.1 dL_law_1077 (lv_at hl 4 rfl) ?_
  refine lv_iconst (v := (1 : Int32)) X.1 X.2.1 dL_law_1079 (by decide) ?_
  refine lv_iadd X.1 X.2.1 dL_law_1080 ?_
  refine lv_name (y := nI (i + 1)) (nI_add i 1) ?_
  refine va_sld X.1 X.2.1 hX hbl hbA w.2.2.2.1 (vp_in_nI (show i + 1 < L by omega) (by omega)) dL_law_1081 ?_
  refine lv_name (y := xs (i + 1)) (by rw [nI_clamp (by omega)]) ?_
  refine lv_aload_n X.1 X.2.1 dL_law_1082 rfl (lv_at hl 0 rfl) ?_
  refine lv_iload X.1 X.2.1 dL_law_1083 (lv_at hl 4 rfl) ?_
  refine lv_iconst (v := (2 : Int32)) X.1 X.2.1 dL_law_1085 (by decide) ?_
  refine lv_iadd X.1 X.2.1 dL_law_1086 ?_
  refine lv_name (y := nI (i + 2)) (nI_add i 2) ?_
  refine va_sld X.1 X.2.1 hX hbl hbA w.2.2.2.1 (vp_in_nI (show i + 2 < L by omega) (by omega)) dL_law_1087 ?_
  refine lv_name (y := xs (i + 2)) (by rw [nI_clamp (by omega)]) ?_
  obtain ⟨mm', r, hc1, hm1, hrel'⟩ := hSt n cap cm mm (xs (i + 1)) (xs (i + 2)) hn hrel
  refine L_C (As := [.int (xs (i + 1)), .int (xs (i + 2))]) (rest := []) X w (kX8_space (cap := cap) l D ca ad1 cm (xs (i + 1)) (xs (i + 2)) hc1) (gTV tw_769 tw_770 tw_771 tw_65 tw_772) hdX8_space ⟨Nat.le_of_ble_eq_true rfl, Nat.le_of_ble_eq_true rfl⟩ rfl hl.1 rfl (Nat.le_of_ble_eq_true rfl) dL_law_1088 ⟨by show _ ≤ 601024; omega, by show _ ≤ 7293034; omega⟩ (fun H locs w => ?_)
  refine lv_aload_n X.1 X.2.1 dL_law_1091 rfl (lv_at hl 2 rfl) ?_
  refine lv_aload_n X.1 X.2.1 dL_law_1092 rfl (lv_at hl 0 rfl) ?_
  refine lv_iload X.1 X.2.1 dL_law_1093 (lv_at hl 4 rfl) ?_
  refine lv_iconst (v := (1 : Int32)) X.1 X.2.1 dL_law_1095 (by decide) ?_
  refine lv_iadd X.1 X.2.1 dL_law_1096 ?_
  refine lv_name (y := nI (i + 1)) (nI_add i 1) ?_
  refine va_sld X.1 X.2.1 hX hbl hbA w.2.2.2.1 (vp_in_nI (show i + 1 < L by omega) (by omega)) dL_law_1097 ?_
  refine lv_name (y := xs (i + 1)) (by rw [nI_clamp (by omega)]) ?_
  refine lv_aload_n X.1 X.2.1 dL_law_1098 rfl (lv_at hl 0 rfl) ?_
  refine lv_iload X.1 X.2.1 dL_law_1099 (lv_at hl 4 rfl) ?_
  refine lv_iconst (v := (2 : Int32)) X.1 X.2.1 dL_law_1101 (by decide) ?_
  refine lv_iadd X.1 X.2.1 dL_law_1102 ?_
  refine lv_name (y := nI (i + 2)) (nI_add i 2) ?_
  refine va_sld X.1 X.2.1 hX hbl hbA w.2.2.2.1 (vp_in_nI (show i + 2 < L by omega) (by omega)) dL_law_1103 ?_
  refine lv_name (y := xs (i + 2)) (by rw [nI_clamp (by omega)]) ?_
  refine L_M (As := [.int (xs (i + 1)), .int (xs (i + 2))]) (rest := [.int r]) X w (kX9_space l D ca ad2 mm (xs (i + 1)) (xs (i + 2)) hm1) (gTV tw_1233 tw_1234 tw_1235 tw_75 tw_1236) hdX9_space ⟨Nat.le_of_ble_eq_true rfl, Nat.le_of_ble_eq_true rfl⟩ rfl hl.1 rfl (Nat.le_of_ble_eq_true rfl) dL_law_1104 ⟨by show _ ≤ 601024; omega, by show _ ≤ 7293034; omega⟩ (fun H locs w => ?_)
  refine lv_icmp_eq (tgt := 1137) X.1 X.2.1 dL_law_1107 (by decide) (fun _ => ?_) (fun c1 => absurd rfl c1)
  exact kk _ _ _ _ _ _ _ _ _ _ (by omega) (by omega) hrel' w hl
/-- what the pure proof owes for count -/
def St_count (Rel : Nat → Nat → Mm → Mm → Prop) : Prop := ∀ (n cap : Nat) (cm mm : Mm) (a1 : Int32), n < 512 → Rel n cap cm mm → ∃ (cm' mm' : Mm) (r : Int32), fX8_count cm a1 = some (cm', r) ∧ fX9_count mm a1 = some (mm', r) ∧ Rel (n + 1) cap cm' mm'
set_option maxRecDepth 100000 in
set_option maxHeartbeats 4000000 in
theorem law_count {p : Program} {l : Launch} {e : Env} {s : State} {m : MethodId} {below : List Frame} {meth : Method} {c : Code} {D : va_G} {ca : Nat → ClassId} {ad1 ad2 : Nat → Nat} {cap q3 : Nat} {cm mm : Mm} {fo : Nat → Int64} {cL : ClassId} {b L : Nat} {xs : Nat → Int32} {i n cells slots : Nat} {H : Heap} {locs : List Loc} {ls : Array Slot} {Q : State → Prop} {Rel : Nat → Nat → Mm → Mm → Prop} (X : CallFix p m c cL_law 7 s #[Value.ref b] TT RL) (hX : va_X b L xs s s.heap) (hbl : b < s.heap.size) (hi : i + 6 ≤ L) (hL : L ≤ 3072) (hSt : St_count Rel) (hn : n < 512) (hrel : Rel n cap cm mm) (w : LW D ca ad1 cap cm ad2 mm q3 fo cL s H locs) (hl : lv_has ls 7 [(0, .ref b), (1, .ref (ad1 0)), (2, .ref (ad2 0)), (3, .ref q3), (4, .int (nI i))]) (hc : cells + 2 ≤ 601024) (hs : slots + 1024 ≤ 7293034) (kk : ∀ (u : Nat → Nat) (cap' : Nat) (cm' mm' : Mm) (fo' : Nat → Int64) (H : Heap) (locs : List Loc) (ls : Array Slot) (cells' slots' : Nat), cells' ≤ cells + 2 → slots' ≤ slots + 1024 → Rel (n + 1) cap' cm' mm' → LW D ca u cap' cm' ad2 mm' q3 fo' cL s H locs → lv_has ls 7 [(0, .ref b), (1, .ref (u 0)), (2, .ref (ad2 0)), (3, .ref q3), (4, .int (nI i))] → W p l e room_1 s m #[Value.ref b] below meth c H locs cells' slots' Q (F0 m 1137 ls [])) : W p l e room_1 s m #[Value.ref b] below meth c H locs cells slots Q (F0 m 1112 ls []) := by
  have hbA : ¬ (fun q : Nat => s.heap.size ≤ q) b := Nat.not_le.mpr hbl
  refine lv_aload_n X.1 X.2.1 dL_law_1112 rfl (lv_at hl 1 rfl) ?_
  refine lv_aload_n X.1 X.2.1 dL_law_1113 rfl (lv_at hl 0 rfl) ?_
  refine lv_iload X.1 X.2.1 dL_law_1114 (lv_at hl 4 rfl) ?_
  refine lv_iconst (v := (1 : Int32)) X.1 X.2.1 dL_law_1116 (by decide) ?_
  refine lv_iadd X.1 X.2.1 dL_law_1117 ?_
  refine lv_name (y := nI (i + 1)) (nI_add i 1) ?_
  refine va_sld X.1 X.2.1 hX hbl hbA w.2.2.2.1 (vp_in_nI (show i + 1 < L by omega) (by omega)) dL_law_1118 ?_
  refine lv_name (y := xs (i + 1)) (by rw [nI_clamp (by omega)]) ?_
  obtain ⟨cm', mm', r, hc1, hm1, hrel'⟩ := hSt n cap cm mm (xs (i + 1)) hn hrel
  refine L_C (As := [.int (xs (i + 1))]) (rest := []) X w (kX8_count (cap := cap) l D ca ad1 cm (xs (i + 1)) hc1) (gTV tw_773 tw_774 tw_775 tw_65 tw_776) hdX8_count ⟨Nat.le_of_ble_eq_true rfl, Nat.le_of_ble_eq_true rfl⟩ rfl hl.1 rfl (Nat.le_of_ble_eq_true rfl) dL_law_1119 ⟨by show _ ≤ 601024; omega, by show _ ≤ 7293034; omega⟩ (fun H locs w => ?_)
  refine lv_aload_n X.1 X.2.1 dL_law_1122 rfl (lv_at hl 2 rfl) ?_
  refine lv_aload_n X.1 X.2.1 dL_law_1123 rfl (lv_at hl 0 rfl) ?_
  refine lv_iload X.1 X.2.1 dL_law_1124 (lv_at hl 4 rfl) ?_
  refine lv_iconst (v := (1 : Int32)) X.1 X.2.1 dL_law_1126 (by decide) ?_
  refine lv_iadd X.1 X.2.1 dL_law_1127 ?_
  refine lv_name (y := nI (i + 1)) (nI_add i 1) ?_
  refine va_sld X.1 X.2.1 hX hbl hbA w.2.2.2.1 (vp_in_nI (show i + 1 < L by omega) (by omega)) dL_law_1128 ?_
  refine lv_name (y := xs (i + 1)) (by rw [nI_clamp (by omega)]) ?_
  refine L_M (As := [.int (xs (i + 1))]) (rest := [.int r]) X w (kX9_count l D ca ad2 mm (xs (i + 1)) hm1) (gTV tw_1237 tw_1238 tw_1239 tw_75 tw_1240) hdX9_count ⟨Nat.le_of_ble_eq_true rfl, Nat.le_of_ble_eq_true rfl⟩ rfl hl.1 rfl (Nat.le_of_ble_eq_true rfl) dL_law_1129 ⟨by show _ ≤ 601024; omega, by show _ ≤ 7293034; omega⟩ (fun H locs w => ?_)
  refine lv_icmp_eq (tgt := 1137) X.1 X.2.1 dL_law_1132 (by decide) (fun _ => ?_) (fun c1 => absurd rfl c1)
  exact kk _ _ _ _ _ _ _ _ _ _ (by omega) (by omega) hrel' w hl
