/-! the big equation, piece by piece -/
set_option maxHeartbeats 8000000 in
set_option maxRecDepth 100000 in
theorem gl_q0 (cA : Nat → ClassId) (ad1 ad0 : Nat → Nat) : (gl_mk (gl_f cA (gl_ad ad1 ad0)) 0 ((gw_SH.drop 0).take 13)).map some = ((gl_pm.drop 0).take 13).map (fun i => (gl_W cA ad1)[i]?) := rfl
set_option maxHeartbeats 8000000 in
set_option maxRecDepth 100000 in
theorem gl_q1 (cA : Nat → ClassId) (ad1 ad0 : Nat → Nat) : (gl_mk (gl_f cA (gl_ad ad1 ad0)) 13 ((gw_SH.drop 13).take 13)).map some = ((gl_pm.drop 13).take 13).map (fun i => (gl_W cA ad1)[i]?) := rfl
set_option maxHeartbeats 8000000 in
set_option maxRecDepth 100000 in
theorem gl_q2 (cA : Nat → ClassId) (ad1 ad0 : Nat → Nat) : (gl_mk (gl_f cA (gl_ad ad1 ad0)) 26 ((gw_SH.drop 26).take 13)).map some = ((gl_pm.drop 26).take 13).map (fun i => (gl_W cA ad1)[i]?) := rfl
set_option maxHeartbeats 8000000 in
set_option maxRecDepth 100000 in
theorem gl_q3 (cA : Nat → ClassId) (ad1 ad0 : Nat → Nat) : (gl_mk (gl_f cA (gl_ad ad1 ad0)) 39 ((gw_SH.drop 39).take 13)).map some = ((gl_pm.drop 39).take 13).map (fun i => (gl_W cA ad1)[i]?) := rfl
set_option maxHeartbeats 8000000 in
set_option maxRecDepth 100000 in
theorem gl_q4 (cA : Nat → ClassId) (ad1 ad0 : Nat → Nat) : (gl_mk (gl_f cA (gl_ad ad1 ad0)) 52 ((gw_SH.drop 52).take 13)).map some = ((gl_pm.drop 52).take 13).map (fun i => (gl_W cA ad1)[i]?) := rfl
set_option maxHeartbeats 8000000 in
set_option maxRecDepth 100000 in
theorem gl_q5 (cA : Nat → ClassId) (ad1 ad0 : Nat → Nat) : (gl_mk (gl_f cA (gl_ad ad1 ad0)) 65 ((gw_SH.drop 65).take 13)).map some = ((gl_pm.drop 65).take 13).map (fun i => (gl_W cA ad1)[i]?) := rfl
set_option maxHeartbeats 8000000 in
set_option maxRecDepth 100000 in
theorem gl_q6 (cA : Nat → ClassId) (ad1 ad0 : Nat → Nat) : (gl_mk (gl_f cA (gl_ad ad1 ad0)) 78 ((gw_SH.drop 78).take 13)).map some = ((gl_pm.drop 78).take 13).map (fun i => (gl_W cA ad1)[i]?) := rfl
set_option maxHeartbeats 8000000 in
set_option maxRecDepth 100000 in
theorem gl_q7 (cA : Nat → ClassId) (ad1 ad0 : Nat → Nat) : (gl_mk (gl_f cA (gl_ad ad1 ad0)) 91 ((gw_SH.drop 91).take 13)).map some = ((gl_pm.drop 91).take 13).map (fun i => (gl_W cA ad1)[i]?) := rfl
set_option maxHeartbeats 8000000 in
set_option maxRecDepth 100000 in
theorem gl_q8 (cA : Nat → ClassId) (ad1 ad0 : Nat → Nat) : (gl_mk (gl_f cA (gl_ad ad1 ad0)) 104 ((gw_SH.drop 104).take 13)).map some = ((gl_pm.drop 104).take 13).map (fun i => (gl_W cA ad1)[i]?) := rfl
