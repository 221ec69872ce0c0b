/-! the big equation, piece by piece -/
set_option maxHeartbeats 8000000 in
set_option maxRecDepth 100000 in
theorem gl_q0 (cA : Nat → ClassId) (ad1 ad2 ad0 : Nat → Nat) : (gl_mk (gl_f cA (gl_ad ad1 ad2 ad0)) 0 ((gw_SH.drop 0).take 12)).map some = ((gl_pm.drop 0).take 12).map (fun i => (gl_W cA ad1 ad2)[i]?) := rfl
set_option maxHeartbeats 8000000 in
set_option maxRecDepth 100000 in
theorem gl_q1 (cA : Nat → ClassId) (ad1 ad2 ad0 : Nat → Nat) : (gl_mk (gl_f cA (gl_ad ad1 ad2 ad0)) 12 ((gw_SH.drop 12).take 12)).map some = ((gl_pm.drop 12).take 12).map (fun i => (gl_W cA ad1 ad2)[i]?) := rfl
set_option maxHeartbeats 8000000 in
set_option maxRecDepth 100000 in
theorem gl_q2 (cA : Nat → ClassId) (ad1 ad2 ad0 : Nat → Nat) : (gl_mk (gl_f cA (gl_ad ad1 ad2 ad0)) 24 ((gw_SH.drop 24).take 12)).map some = ((gl_pm.drop 24).take 12).map (fun i => (gl_W cA ad1 ad2)[i]?) := rfl
set_option maxHeartbeats 8000000 in
set_option maxRecDepth 100000 in
theorem gl_q3 (cA : Nat → ClassId) (ad1 ad2 ad0 : Nat → Nat) : (gl_mk (gl_f cA (gl_ad ad1 ad2 ad0)) 36 ((gw_SH.drop 36).take 12)).map some = ((gl_pm.drop 36).take 12).map (fun i => (gl_W cA ad1 ad2)[i]?) := rfl
set_option maxHeartbeats 8000000 in
set_option maxRecDepth 100000 in
theorem gl_q4 (cA : Nat → ClassId) (ad1 ad2 ad0 : Nat → Nat) : (gl_mk (gl_f cA (gl_ad ad1 ad2 ad0)) 48 ((gw_SH.drop 48).take 12)).map some = ((gl_pm.drop 48).take 12).map (fun i => (gl_W cA ad1 ad2)[i]?) := rfl
set_option maxHeartbeats 8000000 in
set_option maxRecDepth 100000 in
theorem gl_q5 (cA : Nat → ClassId) (ad1 ad2 ad0 : Nat → Nat) : (gl_mk (gl_f cA (gl_ad ad1 ad2 ad0)) 60 ((gw_SH.drop 60).take 12)).map some = ((gl_pm.drop 60).take 12).map (fun i => (gl_W cA ad1 ad2)[i]?) := rfl
set_option maxHeartbeats 8000000 in
set_option maxRecDepth 100000 in
theorem gl_q6 (cA : Nat → ClassId) (ad1 ad2 ad0 : Nat → Nat) : (gl_mk (gl_f cA (gl_ad ad1 ad2 ad0)) 72 ((gw_SH.drop 72).take 12)).map some = ((gl_pm.drop 72).take 12).map (fun i => (gl_W cA ad1 ad2)[i]?) := rfl
set_option maxHeartbeats 8000000 in
set_option maxRecDepth 100000 in
theorem gl_q7 (cA : Nat → ClassId) (ad1 ad2 ad0 : Nat → Nat) : (gl_mk (gl_f cA (gl_ad ad1 ad2 ad0)) 84 ((gw_SH.drop 84).take 12)).map some = ((gl_pm.drop 84).take 12).map (fun i => (gl_W cA ad1 ad2)[i]?) := rfl
set_option maxHeartbeats 8000000 in
set_option maxRecDepth 100000 in
theorem gl_q8 (cA : Nat → ClassId) (ad1 ad2 ad0 : Nat → Nat) : (gl_mk (gl_f cA (gl_ad ad1 ad2 ad0)) 96 ((gw_SH.drop 96).take 12)).map some = ((gl_pm.drop 96).take 12).map (fun i => (gl_W cA ad1 ad2)[i]?) := rfl
set_option maxHeartbeats 8000000 in
set_option maxRecDepth 100000 in
theorem gl_q9 (cA : Nat → ClassId) (ad1 ad2 ad0 : Nat → Nat) : (gl_mk (gl_f cA (gl_ad ad1 ad2 ad0)) 108 ((gw_SH.drop 108).take 12)).map some = ((gl_pm.drop 108).take 12).map (fun i => (gl_W cA ad1 ad2)[i]?) := rfl
set_option maxHeartbeats 8000000 in
set_option maxRecDepth 100000 in
theorem gl_q10 (cA : Nat → ClassId) (ad1 ad2 ad0 : Nat → Nat) : (gl_mk (gl_f cA (gl_ad ad1 ad2 ad0)) 120 ((gw_SH.drop 120).take 12)).map some = ((gl_pm.drop 120).take 12).map (fun i => (gl_W cA ad1 ad2)[i]?) := rfl
set_option maxHeartbeats 8000000 in
set_option maxRecDepth 100000 in
theorem gl_q11 (cA : Nat → ClassId) (ad1 ad2 ad0 : Nat → Nat) : (gl_mk (gl_f cA (gl_ad ad1 ad2 ad0)) 132 ((gw_SH.drop 132).take 12)).map some = ((gl_pm.drop 132).take 12).map (fun i => (gl_W cA ad1 ad2)[i]?) := rfl
