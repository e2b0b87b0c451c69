set_option maxRecDepth 100000 in
set_option maxHeartbeats 4000000 in
theorem postC_wd (ca : Nat → ClassId) (U : Nat → Nat) : postX8_init ca U = wd ca U memC0 (layC 8) := rfl
set_option maxRecDepth 100000 in
set_option maxHeartbeats 4000000 in
theorem postM_wd (ca : Nat → ClassId) (U : Nat → Nat) : postX9_init ca U = wd ca U memM0 layM := rfl
