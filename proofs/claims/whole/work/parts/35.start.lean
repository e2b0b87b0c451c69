set_option maxRecDepth 100000 in
set_option maxHeartbeats 1000000 in
theorem postM_wd (ca : Nat → ClassId) (U : Nat → Nat) : postX9_init ca U = wd ca U memM0 layM := by
  simp only [wd, layM, List.mapIdx_cons, List.mapIdx_nil, ce, fv, postX9_init, memM0, Nat.zero_add, Nat.reduceAdd]
set_option maxRecDepth 100000 in
set_option maxHeartbeats 1000000 in
theorem postC_wd (ca : Nat → ClassId) (U : Nat → Nat) : postX8_init ca U = wd ca U memC0 (layC 8) := by
  simp only [wd, layC, List.mapIdx_cons, List.mapIdx_nil, ce, fv, postX8_init, memC0, Nat.zero_add, Nat.reduceAdd]
