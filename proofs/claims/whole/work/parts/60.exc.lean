/-! what a throw of NoSuchElementException needs of the tables -/
def nsE : String := "java/util/NoSuchElementException"
def nsUp : List String := ["java/lang/RuntimeException", "java/lang/Exception"]
set_option maxRecDepth 100000 in
theorem ns_face : ∀ w ∈ (vx_at0 RX8 252 nsE nsUp).filter (fun w => !goodWord w), w.faceAtom = true ∧ w.onTables = true := by decide +kernel
set_option maxRecDepth 100000 in
theorem ns_ot : ∀ w ∈ Cond.classLink RX8 250 nsE :: Cond.initialized nsE :: vx_at0 RX8 252 nsE nsUp, vx_ot w = true := by decide +kernel
set_option maxRecDepth 100000 in
theorem ns_good : ∀ w ∈ (vx_at0 RX8 252 nsE nsUp).filter goodWord, w ∈ lw_tbl := by decide +kernel
theorem ns_TT : ∀ w ∈ (vx_at0 RX8 252 nsE nsUp).filter goodWord, w ∈ TT := fun w h => List.mem_filter.mpr ⟨ns_good w h, (List.mem_filter.mp h).2⟩
