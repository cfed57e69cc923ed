/-! ===== the words of the tables that the walks use ===== -/
theorem inX0 : ∀ w ∈ u_ws RX0 TX0 5, w ∈ WSl := by
  intro w hw
  obtain ⟨k, hk, rfl⟩ := List.mem_map.mp hw
  have hk2 := List.mem_range.mp hk
  match k, hk2 with
  | 0, _ => exact inG (in_t1 (List.mem_of_getElem? (i := 149) rfl)) rfl
  | 1, _ => exact inG (in_t1 (List.mem_of_getElem? (i := 151) rfl)) rfl
  | 2, _ => exact inG (in_t1 (List.mem_of_getElem? (i := 153) rfl)) rfl
  | 3, _ => exact inG (in_t1 (List.mem_of_getElem? (i := 155) rfl)) rfl
  | 4, _ => exact inG (in_t1 (List.mem_of_getElem? (i := 157) rfl)) rfl
  | j + 5, h => exact absurd h (by omega)
theorem inX1 : ∀ w ∈ u_ws RX1 TX1 2, w ∈ WSl := by
  intro w hw
  obtain ⟨k, hk, rfl⟩ := List.mem_map.mp hw
  have hk2 := List.mem_range.mp hk
  match k, hk2 with
  | 0, _ => exact inG (in_t1 (List.mem_of_getElem? (i := 37) rfl)) rfl
  | 1, _ => exact inG (in_t1 (List.mem_of_getElem? (i := 39) rfl)) rfl
  | j + 2, h => exact absurd h (by omega)
theorem inX2 : ∀ w ∈ u_ws RX2 TX2 4, w ∈ WSl := by
  intro w hw
  obtain ⟨k, hk, rfl⟩ := List.mem_map.mp hw
  have hk2 := List.mem_range.mp hk
  match k, hk2 with
  | 0, _ => exact inG (in_t2 (List.mem_of_getElem? (i := 26) rfl)) rfl
  | 1, _ => exact inG (in_t2 (List.mem_of_getElem? (i := 28) rfl)) rfl
  | 2, _ => exact inG (in_t2 (List.mem_of_getElem? (i := 30) rfl)) rfl
  | 3, _ => exact inG (in_t2 (List.mem_of_getElem? (i := 32) rfl)) rfl
  | j + 4, h => exact absurd h (by omega)
theorem inX3 : ∀ w ∈ u_ws RX3 TX3 6, w ∈ WSl := by
  intro w hw
  obtain ⟨k, hk, rfl⟩ := List.mem_map.mp hw
  have hk2 := List.mem_range.mp hk
  match k, hk2 with
  | 0, _ => exact inG (in_t1 (List.mem_of_getElem? (i := 177) rfl)) rfl
  | 1, _ => exact inG (in_t1 (List.mem_of_getElem? (i := 179) rfl)) rfl
  | 2, _ => exact inG (in_t1 (List.mem_of_getElem? (i := 181) rfl)) rfl
  | 3, _ => exact inG (in_t1 (List.mem_of_getElem? (i := 183) rfl)) rfl
  | 4, _ => exact inG (in_t1 (List.mem_of_getElem? (i := 185) rfl)) rfl
  | 5, _ => exact inG (in_t1 (List.mem_of_getElem? (i := 187) rfl)) rfl
  | j + 6, h => exact absurd h (by omega)
theorem inX4 : ∀ w ∈ u_ws RX4 TX4 16, w ∈ WSl := by
  intro w hw
  obtain ⟨k, hk, rfl⟩ := List.mem_map.mp hw
  have hk2 := List.mem_range.mp hk
  match k, hk2 with
  | 0, _ => exact inG (in_t1 (List.mem_of_getElem? (i := 79) rfl)) rfl
  | 1, _ => exact inG (in_t1 (List.mem_of_getElem? (i := 81) rfl)) rfl
  | 2, _ => exact inG (in_t1 (List.mem_of_getElem? (i := 83) rfl)) rfl
  | 3, _ => exact inG (in_t1 (List.mem_of_getElem? (i := 85) rfl)) rfl
  | 4, _ => exact inG (in_t1 (List.mem_of_getElem? (i := 87) rfl)) rfl
  | 5, _ => exact inG (in_t1 (List.mem_of_getElem? (i := 89) rfl)) rfl
  | 6, _ => exact inG (in_t1 (List.mem_of_getElem? (i := 91) rfl)) rfl
  | 7, _ => exact inG (in_t1 (List.mem_of_getElem? (i := 93) rfl)) rfl
  | 8, _ => exact inG (in_t1 (List.mem_of_getElem? (i := 95) rfl)) rfl
  | 9, _ => exact inG (in_t1 (List.mem_of_getElem? (i := 97) rfl)) rfl
  | 10, _ => exact inG (in_t1 (List.mem_of_getElem? (i := 99) rfl)) rfl
  | 11, _ => exact inG (in_t1 (List.mem_of_getElem? (i := 101) rfl)) rfl
  | 12, _ => exact inG (in_t1 (List.mem_of_getElem? (i := 103) rfl)) rfl
  | 13, _ => exact inG (in_t1 (List.mem_of_getElem? (i := 105) rfl)) rfl
  | 14, _ => exact inG (in_t1 (List.mem_of_getElem? (i := 107) rfl)) rfl
  | 15, _ => exact inG (in_t1 (List.mem_of_getElem? (i := 109) rfl)) rfl
  | j + 16, h => exact absurd h (by omega)
theorem inX5 : ∀ w ∈ u_ws RX5 TX5 4, w ∈ WSl := by
  intro w hw
  obtain ⟨k, hk, rfl⟩ := List.mem_map.mp hw
  have hk2 := List.mem_range.mp hk
  match k, hk2 with
  | 0, _ => exact inG (in_t1 (List.mem_of_getElem? (i := 128) rfl)) rfl
  | 1, _ => exact inG (in_t1 (List.mem_of_getElem? (i := 130) rfl)) rfl
  | 2, _ => exact inG (in_t1 (List.mem_of_getElem? (i := 132) rfl)) rfl
  | 3, _ => exact inG (in_t1 (List.mem_of_getElem? (i := 134) rfl)) rfl
  | j + 4, h => exact absurd h (by omega)
theorem inX6 : ∀ w ∈ u_ws RX6 TX6 3, w ∈ WSl := by
  intro w hw
  obtain ⟨k, hk, rfl⟩ := List.mem_map.mp hw
  have hk2 := List.mem_range.mp hk
  match k, hk2 with
  | 0, _ => exact inG (in_t1 (List.mem_of_getElem? (i := 199) rfl)) rfl
  | 1, _ => exact inG (in_t1 (List.mem_of_getElem? (i := 201) rfl)) rfl
  | 2, _ => exact inG (in_t1 (List.mem_of_getElem? (i := 203) rfl)) rfl
  | j + 3, h => exact absurd h (by omega)
theorem inX7 : ∀ w ∈ u_ws RX7 TX7 11, w ∈ WSl := by
  intro w hw
  obtain ⟨k, hk, rfl⟩ := List.mem_map.mp hw
  have hk2 := List.mem_range.mp hk
  match k, hk2 with
  | 0, _ => exact inG (in_t1 (List.mem_of_getElem? (i := 231) rfl)) rfl
  | 1, _ => exact inG (in_t1 (List.mem_of_getElem? (i := 233) rfl)) rfl
  | 2, _ => exact inG (in_t1 (List.mem_of_getElem? (i := 235) rfl)) rfl
  | 3, _ => exact inG (in_t1 (List.mem_of_getElem? (i := 237) rfl)) rfl
  | 4, _ => exact inG (in_t1 (List.mem_of_getElem? (i := 239) rfl)) rfl
  | 5, _ => exact inG (in_t2 (List.mem_of_getElem? (i := 1) rfl)) rfl
  | 6, _ => exact inG (in_t2 (List.mem_of_getElem? (i := 3) rfl)) rfl
  | 7, _ => exact inG (in_t2 (List.mem_of_getElem? (i := 5) rfl)) rfl
  | 8, _ => exact inG (in_t2 (List.mem_of_getElem? (i := 7) rfl)) rfl
  | 9, _ => exact inG (in_t2 (List.mem_of_getElem? (i := 9) rfl)) rfl
  | 10, _ => exact inG (in_t2 (List.mem_of_getElem? (i := 11) rfl)) rfl
  | j + 11, h => exact absurd h (by omega)
theorem inX8 : ∀ w ∈ u_ws RX8 TX8 9, w ∈ WSl := by
  intro w hw
  obtain ⟨k, hk, rfl⟩ := List.mem_map.mp hw
  have hk2 := List.mem_range.mp hk
  match k, hk2 with
  | 0, _ => exact inG (in_t2 (List.mem_of_getElem? (i := 44) rfl)) rfl
  | 1, _ => exact inG (in_t2 (List.mem_of_getElem? (i := 46) rfl)) rfl
  | 2, _ => exact inG (in_t2 (List.mem_of_getElem? (i := 48) rfl)) rfl
  | 3, _ => exact inG (in_t2 (List.mem_of_getElem? (i := 50) rfl)) rfl
  | 4, _ => exact inG (in_t2 (List.mem_of_getElem? (i := 52) rfl)) rfl
  | 5, _ => exact inG (in_t2 (List.mem_of_getElem? (i := 54) rfl)) rfl
  | 6, _ => exact inG (in_t2 (List.mem_of_getElem? (i := 56) rfl)) rfl
  | 7, _ => exact inG (in_t2 (List.mem_of_getElem? (i := 58) rfl)) rfl
  | 8, _ => exact inG (in_t2 (List.mem_of_getElem? (i := 60) rfl)) rfl
  | j + 9, h => exact absurd h (by omega)
theorem inX9 : ∀ w ∈ u_ws RX9 TX9 47, w ∈ WSl := by
  intro w hw
  obtain ⟨k, hk, rfl⟩ := List.mem_map.mp hw
  have hk2 := List.mem_range.mp hk
  match k, hk2 with
  | 0, _ => exact inG (in_t4 (List.mem_of_getElem? (i := 26) rfl)) rfl
  | 1, _ => exact inG (in_t4 (List.mem_of_getElem? (i := 28) rfl)) rfl
  | 2, _ => exact inG (in_t4 (List.mem_of_getElem? (i := 30) rfl)) rfl
  | 3, _ => exact inG (in_t4 (List.mem_of_getElem? (i := 32) rfl)) rfl
  | 4, _ => exact inG (in_t4 (List.mem_of_getElem? (i := 34) rfl)) rfl
  | 5, _ => exact inG (in_t4 (List.mem_of_getElem? (i := 36) rfl)) rfl
  | 6, _ => exact inG (in_t4 (List.mem_of_getElem? (i := 38) rfl)) rfl
  | 7, _ => exact inG (in_t4 (List.mem_of_getElem? (i := 40) rfl)) rfl
  | 8, _ => exact inG (in_t4 (List.mem_of_getElem? (i := 42) rfl)) rfl
  | 9, _ => exact inG (in_t4 (List.mem_of_getElem? (i := 44) rfl)) rfl
  | 10, _ => exact inG (in_t4 (List.mem_of_getElem? (i := 46) rfl)) rfl
  | 11, _ => exact inG (in_t4 (List.mem_of_getElem? (i := 48) rfl)) rfl
  | 12, _ => exact inG (in_t4 (List.mem_of_getElem? (i := 50) rfl)) rfl
  | 13, _ => exact inG (in_t4 (List.mem_of_getElem? (i := 52) rfl)) rfl
  | 14, _ => exact inG (in_t4 (List.mem_of_getElem? (i := 54) rfl)) rfl
  | 15, _ => exact inG (in_t4 (List.mem_of_getElem? (i := 56) rfl)) rfl
  | 16, _ => exact inG (in_t4 (List.mem_of_getElem? (i := 58) rfl)) rfl
  | 17, _ => exact inG (in_t4 (List.mem_of_getElem? (i := 60) rfl)) rfl
  | 18, _ => exact inG (in_t4 (List.mem_of_getElem? (i := 62) rfl)) rfl
  | 19, _ => exact inG (in_t4 (List.mem_of_getElem? (i := 64) rfl)) rfl
  | 20, _ => exact inG (in_t4 (List.mem_of_getElem? (i := 66) rfl)) rfl
  | 21, _ => exact inG (in_t4 (List.mem_of_getElem? (i := 68) rfl)) rfl
  | 22, _ => exact inG (in_t4 (List.mem_of_getElem? (i := 70) rfl)) rfl
  | 23, _ => exact inG (in_t4 (List.mem_of_getElem? (i := 72) rfl)) rfl
  | 24, _ => exact inG (in_t4 (List.mem_of_getElem? (i := 74) rfl)) rfl
  | 25, _ => exact inG (in_t4 (List.mem_of_getElem? (i := 76) rfl)) rfl
  | 26, _ => exact inG (in_t4 (List.mem_of_getElem? (i := 78) rfl)) rfl
  | 27, _ => exact inG (in_t4 (List.mem_of_getElem? (i := 80) rfl)) rfl
  | 28, _ => exact inG (in_t4 (List.mem_of_getElem? (i := 82) rfl)) rfl
  | 29, _ => exact inG (in_t4 (List.mem_of_getElem? (i := 84) rfl)) rfl
  | 30, _ => exact inG (in_t4 (List.mem_of_getElem? (i := 86) rfl)) rfl
  | 31, _ => exact inG (in_t4 (List.mem_of_getElem? (i := 88) rfl)) rfl
  | 32, _ => exact inG (in_t4 (List.mem_of_getElem? (i := 90) rfl)) rfl
  | 33, _ => exact inG (in_t4 (List.mem_of_getElem? (i := 92) rfl)) rfl
  | 34, _ => exact inG (in_t4 (List.mem_of_getElem? (i := 94) rfl)) rfl
  | 35, _ => exact inG (in_t4 (List.mem_of_getElem? (i := 96) rfl)) rfl
  | 36, _ => exact inG (in_t4 (List.mem_of_getElem? (i := 98) rfl)) rfl
  | 37, _ => exact inG (in_t4 (List.mem_of_getElem? (i := 100) rfl)) rfl
  | 38, _ => exact inG (in_t4 (List.mem_of_getElem? (i := 102) rfl)) rfl
  | 39, _ => exact inG (in_t4 (List.mem_of_getElem? (i := 104) rfl)) rfl
  | 40, _ => exact inG (in_t4 (List.mem_of_getElem? (i := 106) rfl)) rfl
  | 41, _ => exact inG (in_t4 (List.mem_of_getElem? (i := 108) rfl)) rfl
  | 42, _ => exact inG (in_t4 (List.mem_of_getElem? (i := 110) rfl)) rfl
  | 43, _ => exact inG (in_t4 (List.mem_of_getElem? (i := 112) rfl)) rfl
  | 44, _ => exact inG (in_t4 (List.mem_of_getElem? (i := 114) rfl)) rfl
  | 45, _ => exact inG (in_t4 (List.mem_of_getElem? (i := 116) rfl)) rfl
  | 46, _ => exact inG (in_t4 (List.mem_of_getElem? (i := 118) rfl)) rfl
  | j + 47, h => exact absurd h (by omega)
theorem kf_X0_7 : Cond.fieldLink RX0 7 "TwinRuns$Asked" "forms" "LTwinRuns$Forms;" ∈ WSl := inG (in_t1 (List.mem_of_getElem? (i := 143) rfl)) rfl
theorem kf_X0_19 : Cond.fieldLink RX0 19 "TwinRuns$Asked" "deniedAhead" "I" ∈ WSl := inG (in_t1 (List.mem_of_getElem? (i := 144) rfl)) rfl
theorem kf_X0_22 : Cond.fieldLink RX0 22 "TwinRuns$Program" "lastOf" "[I" ∈ WSl := inG (in_t1 (List.mem_of_getElem? (i := 68) rfl)) rfl
theorem kf_X0_31 : Cond.fieldLink RX0 31 "TwinRuns$Asked" "deniedBehind" "I" ∈ WSl := inG (in_t1 (List.mem_of_getElem? (i := 145) rfl)) rfl
theorem kf_X0_33 : Cond.fieldLink RX0 33 "TwinRuns$Program" "comesTo" "[J" ∈ WSl := inG (in_t1 (List.mem_of_getElem? (i := 77) rfl)) rfl
theorem kf_X0_37 : Cond.fieldLink RX0 37 "TwinRuns$Asked" "comesTo" "J" ∈ WSl := inG (in_t1 (List.mem_of_getElem? (i := 146) rfl)) rfl
theorem kf_X0_40 : Cond.fieldLink RX0 40 "TwinRuns$Saying" "alike" "J" ∈ WSl := inG (in_t1 (List.mem_of_getElem? (i := 126) rfl)) rfl
theorem kf_X0_43 : Cond.fieldLink RX0 43 "TwinRuns$Asked" "alike" "J" ∈ WSl := inG (in_t1 (List.mem_of_getElem? (i := 147) rfl)) rfl
theorem kf_X0_44 : Cond.fieldLink RX0 44 "TwinRuns$Forms" "hot" "[I" ∈ WSl := inG (in_t1 (List.mem_of_getElem? (i := 34) rfl)) rfl
theorem kf_X0_49 : Cond.fieldLink RX0 49 "TwinRuns$Program" "hotOf" "[I" ∈ WSl := inG (in_t1 (List.mem_of_getElem? (i := 71) rfl)) rfl
theorem kf_X1_9 : Cond.fieldLink RX1 9 "TwinRuns$Forms" "hot" "[I" ∈ WSl := inG (in_t1 (List.mem_of_getElem? (i := 32) rfl)) rfl
theorem kf_X1_15 : Cond.fieldLink RX1 15 "TwinRuns$Forms" "lanes" "[I" ∈ WSl := inG (in_t1 (List.mem_of_getElem? (i := 36) rfl)) rfl
theorem kf_X2_9 : Cond.fieldLink RX2 9 "TwinRuns$Meeting" "key" "I" ∈ WSl := inG (in_t2 (List.mem_of_getElem? (i := 21) rfl)) rfl
theorem kf_X2_16 : Cond.fieldLink RX2 16 "TwinRuns$Meeting" "queue" "[I" ∈ WSl := inG (in_t2 (List.mem_of_getElem? (i := 23) rfl)) rfl
theorem kf_X2_20 : Cond.fieldLink RX2 20 "TwinRuns$Meeting" "reached" "I" ∈ WSl := inG (in_t2 (List.mem_of_getElem? (i := 24) rfl)) rfl
theorem kf_X2_23 : Cond.fieldLink RX2 23 "TwinRuns$Meeting" "seen" "[J" ∈ WSl := inG (in_t2 (List.mem_of_getElem? (i := 25) rfl)) rfl
theorem kf_X3_9 : Cond.fieldLink RX3 9 "TwinRuns$Pairs" "asked" "LTwinRuns$Asked;" ∈ WSl := inG (in_t1 (List.mem_of_getElem? (i := 166) rfl)) rfl
theorem kf_X3_15 : Cond.fieldLink RX3 15 "TwinRuns$Pairs" "key" "I" ∈ WSl := inG (in_t1 (List.mem_of_getElem? (i := 167) rfl)) rfl
theorem kf_X3_24 : Cond.fieldLink RX3 24 "TwinRuns$Pairs" "broken" "I" ∈ WSl := inG (in_t1 (List.mem_of_getElem? (i := 169) rfl)) rfl
theorem kf_X3_27 : Cond.fieldLink RX3 27 "TwinRuns$Pairs" "firstBroken" "I" ∈ WSl := inG (in_t1 (List.mem_of_getElem? (i := 171) rfl)) rfl
theorem kf_X3_30 : Cond.fieldLink RX3 30 "TwinRuns$Pairs" "meant" "I" ∈ WSl := inG (in_t1 (List.mem_of_getElem? (i := 173) rfl)) rfl
theorem kf_X3_33 : Cond.fieldLink RX3 33 "TwinRuns$Pairs" "lone" "I" ∈ WSl := inG (in_t1 (List.mem_of_getElem? (i := 175) rfl)) rfl
theorem kf_X4_9 : Cond.fieldLink RX4 9 "TwinRuns$Program" "forms" "LTwinRuns$Forms;" ∈ WSl := inG (in_t1 (List.mem_of_getElem? (i := 50) rfl)) rfl
theorem kf_X4_15 : Cond.fieldLink RX4 15 "TwinRuns$Program" "act" "[I" ∈ WSl := inG (in_t1 (List.mem_of_getElem? (i := 51) rfl)) rfl
theorem kf_X4_19 : Cond.fieldLink RX4 19 "TwinRuns$Program" "a" "[I" ∈ WSl := inG (in_t1 (List.mem_of_getElem? (i := 53) rfl)) rfl
theorem kf_X4_22 : Cond.fieldLink RX4 22 "TwinRuns$Program" "b" "[I" ∈ WSl := inG (in_t1 (List.mem_of_getElem? (i := 54) rfl)) rfl
theorem kf_X4_25 : Cond.fieldLink RX4 25 "TwinRuns$Program" "c" "[I" ∈ WSl := inG (in_t1 (List.mem_of_getElem? (i := 55) rfl)) rfl
theorem kf_X4_28 : Cond.fieldLink RX4 28 "TwinRuns$Program" "size" "I" ∈ WSl := inG (in_t1 (List.mem_of_getElem? (i := 56) rfl)) rfl
theorem kf_X4_32 : Cond.fieldLink RX4 32 "TwinRuns$Program" "hushed" "I" ∈ WSl := inG (in_t1 (List.mem_of_getElem? (i := 58) rfl)) rfl
theorem kf_X4_35 : Cond.fieldLink RX4 35 "TwinRuns$Program" "age" "I" ∈ WSl := inG (in_t1 (List.mem_of_getElem? (i := 61) rfl)) rfl
theorem kf_X4_38 : Cond.fieldLink RX4 38 "TwinRuns$Program" "madeAt" "[I" ∈ WSl := inG (in_t1 (List.mem_of_getElem? (i := 62) rfl)) rfl
theorem kf_X4_41 : Cond.fieldLink RX4 41 "TwinRuns$Program" "states" "[I" ∈ WSl := inG (in_t1 (List.mem_of_getElem? (i := 63) rfl)) rfl
theorem kf_X4_44 : Cond.fieldLink RX4 44 "TwinRuns$Program" "endOf" "[I" ∈ WSl := inG (in_t1 (List.mem_of_getElem? (i := 65) rfl)) rfl
theorem kf_X4_47 : Cond.fieldLink RX4 47 "TwinRuns$Program" "lastOf" "[I" ∈ WSl := inG (in_t1 (List.mem_of_getElem? (i := 67) rfl)) rfl
theorem kf_X4_50 : Cond.fieldLink RX4 50 "TwinRuns$Program" "hotOf" "[I" ∈ WSl := inG (in_t1 (List.mem_of_getElem? (i := 70) rfl)) rfl
theorem kf_X4_53 : Cond.fieldLink RX4 53 "TwinRuns$Program" "stepsOf" "[I" ∈ WSl := inG (in_t1 (List.mem_of_getElem? (i := 72) rfl)) rfl
theorem kf_X4_56 : Cond.fieldLink RX4 56 "TwinRuns$Program" "showedOf" "[I" ∈ WSl := inG (in_t1 (List.mem_of_getElem? (i := 74) rfl)) rfl
theorem kf_X4_59 : Cond.fieldLink RX4 59 "TwinRuns$Program" "comesTo" "[J" ∈ WSl := inG (in_t1 (List.mem_of_getElem? (i := 76) rfl)) rfl
theorem kf_X4_81 : Cond.fieldLink RX4 81 "TwinRuns$Forms" "hot" "[I" ∈ WSl := inG (in_t1 (List.mem_of_getElem? (i := 35) rfl)) rfl
theorem kf_X5_9 : Cond.fieldLink RX5 9 "TwinRuns$Saying" "signs" "[I" ∈ WSl := inG (in_t1 (List.mem_of_getElem? (i := 120) rfl)) rfl
theorem kf_X5_15 : Cond.fieldLink RX5 15 "TwinRuns$Saying" "size" "I" ∈ WSl := inG (in_t1 (List.mem_of_getElem? (i := 122) rfl)) rfl
theorem kf_X5_19 : Cond.fieldLink RX5 19 "TwinRuns$Saying" "alike" "J" ∈ WSl := inG (in_t1 (List.mem_of_getElem? (i := 124) rfl)) rfl
theorem kf_X5_23 : Cond.fieldLink RX5 23 "TwinRuns$Saying" "colon" "I" ∈ WSl := inG (in_t1 (List.mem_of_getElem? (i := 127) rfl)) rfl
theorem kf_X6_9 : Cond.fieldLink RX6 9 "TwinRuns$Silencer" "asked" "LTwinRuns$Asked;" ∈ WSl := inG (in_t1 (List.mem_of_getElem? (i := 196) rfl)) rfl
theorem kf_X6_15 : Cond.fieldLink RX6 15 "TwinRuns$Silencer" "group" "[I" ∈ WSl := inG (in_t1 (List.mem_of_getElem? (i := 197) rfl)) rfl
theorem kf_X6_19 : Cond.fieldLink RX6 19 "TwinRuns$Silencer" "shown" "[J" ∈ WSl := inG (in_t1 (List.mem_of_getElem? (i := 198) rfl)) rfl
theorem kf_X6_42 : Cond.fieldLink RX6 42 "TwinRuns$Saying" "alike" "J" ∈ WSl := inG (in_t1 (List.mem_of_getElem? (i := 125) rfl)) rfl
theorem kf_X6_50 : Cond.fieldLink RX6 50 "TwinRuns$Program" "hushed" "I" ∈ WSl := inG (in_t1 (List.mem_of_getElem? (i := 59) rfl)) rfl
theorem kf_X6_64 : Cond.fieldLink RX6 64 "TwinRuns$Asked" "alike" "J" ∈ WSl := inG (in_t1 (List.mem_of_getElem? (i := 148) rfl)) rfl
theorem kf_X7_9 : Cond.fieldLink RX7 9 "TwinRuns$Walker" "forms" "LTwinRuns$Forms;" ∈ WSl := inG (in_t1 (List.mem_of_getElem? (i := 215) rfl)) rfl
theorem kf_X7_15 : Cond.fieldLink RX7 15 "TwinRuns$Walker" "key" "I" ∈ WSl := inG (in_t1 (List.mem_of_getElem? (i := 216) rfl)) rfl
theorem kf_X7_19 : Cond.fieldLink RX7 19 "TwinRuns$Walker" "waits" "[I" ∈ WSl := inG (in_t1 (List.mem_of_getElem? (i := 218) rfl)) rfl
theorem kf_X7_23 : Cond.fieldLink RX7 23 "TwinRuns$Walker" "toldShapes" "[I" ∈ WSl := inG (in_t1 (List.mem_of_getElem? (i := 220) rfl)) rfl
theorem kf_X7_26 : Cond.fieldLink RX7 26 "TwinRuns$Walker" "shapes" "[I" ∈ WSl := inG (in_t1 (List.mem_of_getElem? (i := 222) rfl)) rfl
theorem kf_X7_29 : Cond.fieldLink RX7 29 "TwinRuns$Walker" "stood" "[I" ∈ WSl := inG (in_t1 (List.mem_of_getElem? (i := 224) rfl)) rfl
theorem kf_X7_32 : Cond.fieldLink RX7 32 "TwinRuns$Walker" "mostMoves" "I" ∈ WSl := inG (in_t1 (List.mem_of_getElem? (i := 225) rfl)) rfl
theorem kf_X7_35 : Cond.fieldLink RX7 35 "TwinRuns$Walker" "firstMoved" "[I" ∈ WSl := inG (in_t1 (List.mem_of_getElem? (i := 227) rfl)) rfl
theorem kf_X7_38 : Cond.fieldLink RX7 38 "TwinRuns$Walker" "secondMoved" "[I" ∈ WSl := inG (in_t1 (List.mem_of_getElem? (i := 228) rfl)) rfl
theorem kf_X7_41 : Cond.fieldLink RX7 41 "TwinRuns$Walker" "secondLines" "I" ∈ WSl := inG (in_t1 (List.mem_of_getElem? (i := 229) rfl)) rfl
theorem kf_X7_44 : Cond.fieldLink RX7 44 "TwinRuns$Walker" "deniedNext" "[I" ∈ WSl := inG (in_t1 (List.mem_of_getElem? (i := 230) rfl)) rfl
theorem kf_X7_64 : Cond.fieldLink RX7 64 "TwinRuns$Forms" "hot" "[I" ∈ WSl := inG (in_t1 (List.mem_of_getElem? (i := 33) rfl)) rfl
theorem kf_X7_79 : Cond.fieldLink RX7 79 "TwinRuns$Program" "states" "[I" ∈ WSl := inG (in_t1 (List.mem_of_getElem? (i := 64) rfl)) rfl
theorem kf_X8_14 : Cond.fieldLink RX8 14 "TwinRuns" "programs" "[LTwinRuns$Program;" ∈ WSl := inG (in_t2 (List.mem_of_getElem? (i := 35) rfl)) rfl
theorem kf_X8_23 : Cond.fieldLink RX8 23 "TwinRuns" "sayings" "[LTwinRuns$Saying;" ∈ WSl := inG (in_t2 (List.mem_of_getElem? (i := 36) rfl)) rfl
theorem kf_X8_28 : Cond.fieldLink RX8 28 "TwinRuns" "sayingCount" "I" ∈ WSl := inG (in_t2 (List.mem_of_getElem? (i := 37) rfl)) rfl
theorem kf_X8_32 : Cond.fieldLink RX8 32 "TwinRuns" "draft" "LTwinRuns$Saying;" ∈ WSl := inG (in_t2 (List.mem_of_getElem? (i := 38) rfl)) rfl
theorem kf_X8_39 : Cond.fieldLink RX8 39 "TwinRuns" "asked" "LTwinRuns$Asked;" ∈ WSl := inG (in_t2 (List.mem_of_getElem? (i := 39) rfl)) rfl
theorem kf_X8_48 : Cond.fieldLink RX8 48 "TwinRuns" "pairs" "LTwinRuns$Pairs;" ∈ WSl := inG (in_t2 (List.mem_of_getElem? (i := 40) rfl)) rfl
theorem kf_X8_55 : Cond.fieldLink RX8 55 "TwinRuns" "silencer" "LTwinRuns$Silencer;" ∈ WSl := inG (in_t2 (List.mem_of_getElem? (i := 41) rfl)) rfl
theorem kf_X8_62 : Cond.fieldLink RX8 62 "TwinRuns" "walker" "LTwinRuns$Walker;" ∈ WSl := inG (in_t2 (List.mem_of_getElem? (i := 42) rfl)) rfl
theorem kf_X8_69 : Cond.fieldLink RX8 69 "TwinRuns" "meeting" "LTwinRuns$Meeting;" ∈ WSl := inG (in_t2 (List.mem_of_getElem? (i := 43) rfl)) rfl
theorem kf_X8_81 : Cond.fieldLink RX8 81 "TwinRuns$Program" "size" "I" ∈ WSl := inG (in_t1 (List.mem_of_getElem? (i := 57) rfl)) rfl
theorem kf_X8_91 : Cond.fieldLink RX8 91 "TwinRuns$Program" "act" "[I" ∈ WSl := inG (in_t1 (List.mem_of_getElem? (i := 52) rfl)) rfl
theorem kf_X8_103 : Cond.fieldLink RX8 103 "TwinRuns$Program" "hushed" "I" ∈ WSl := inG (in_t1 (List.mem_of_getElem? (i := 60) rfl)) rfl
theorem kf_X8_112 : Cond.fieldLink RX8 112 "TwinRuns$Program" "endOf" "[I" ∈ WSl := inG (in_t1 (List.mem_of_getElem? (i := 66) rfl)) rfl
theorem kf_X8_115 : Cond.fieldLink RX8 115 "TwinRuns$Program" "lastOf" "[I" ∈ WSl := inG (in_t1 (List.mem_of_getElem? (i := 69) rfl)) rfl
theorem kf_X8_118 : Cond.fieldLink RX8 118 "TwinRuns$Program" "stepsOf" "[I" ∈ WSl := inG (in_t1 (List.mem_of_getElem? (i := 73) rfl)) rfl
theorem kf_X8_121 : Cond.fieldLink RX8 121 "TwinRuns$Program" "showedOf" "[I" ∈ WSl := inG (in_t1 (List.mem_of_getElem? (i := 75) rfl)) rfl
theorem kf_X8_128 : Cond.fieldLink RX8 128 "TwinRuns$Saying" "size" "I" ∈ WSl := inG (in_t1 (List.mem_of_getElem? (i := 123) rfl)) rfl
theorem kf_X8_129 : Cond.fieldLink RX8 129 "TwinRuns$Saying" "signs" "[I" ∈ WSl := inG (in_t1 (List.mem_of_getElem? (i := 121) rfl)) rfl
theorem kf_X8_157 : Cond.fieldLink RX8 157 "TwinRuns$Pairs" "key" "I" ∈ WSl := inG (in_t1 (List.mem_of_getElem? (i := 168) rfl)) rfl
theorem kf_X8_164 : Cond.fieldLink RX8 164 "TwinRuns$Pairs" "broken" "I" ∈ WSl := inG (in_t1 (List.mem_of_getElem? (i := 170) rfl)) rfl
theorem kf_X8_167 : Cond.fieldLink RX8 167 "TwinRuns$Pairs" "firstBroken" "I" ∈ WSl := inG (in_t1 (List.mem_of_getElem? (i := 172) rfl)) rfl
theorem kf_X8_170 : Cond.fieldLink RX8 170 "TwinRuns$Pairs" "meant" "I" ∈ WSl := inG (in_t1 (List.mem_of_getElem? (i := 174) rfl)) rfl
theorem kf_X8_173 : Cond.fieldLink RX8 173 "TwinRuns$Pairs" "lone" "I" ∈ WSl := inG (in_t1 (List.mem_of_getElem? (i := 176) rfl)) rfl
theorem kf_X8_179 : Cond.fieldLink RX8 179 "TwinRuns$Walker" "waits" "[I" ∈ WSl := inG (in_t1 (List.mem_of_getElem? (i := 219) rfl)) rfl
theorem kf_X8_192 : Cond.fieldLink RX8 192 "TwinRuns$Walker" "mostMoves" "I" ∈ WSl := inG (in_t1 (List.mem_of_getElem? (i := 226) rfl)) rfl
theorem kf_X8_195 : Cond.fieldLink RX8 195 "TwinRuns$Walker" "shapes" "[I" ∈ WSl := inG (in_t1 (List.mem_of_getElem? (i := 223) rfl)) rfl
theorem kf_X8_198 : Cond.fieldLink RX8 198 "TwinRuns$Walker" "toldShapes" "[I" ∈ WSl := inG (in_t1 (List.mem_of_getElem? (i := 221) rfl)) rfl
theorem kf_X8_249 : Cond.fieldLink RX8 249 "TwinRuns$Program" "comesTo" "[J" ∈ WSl := inG (in_t1 (List.mem_of_getElem? (i := 78) rfl)) rfl
theorem kf_X8_255 : Cond.fieldLink RX8 255 "TwinRuns$Meeting" "key" "I" ∈ WSl := inG (in_t2 (List.mem_of_getElem? (i := 22) rfl)) rfl
theorem kf_X8_269 : Cond.fieldLink RX8 269 "TwinRuns$Walker" "key" "I" ∈ WSl := inG (in_t1 (List.mem_of_getElem? (i := 217) rfl)) rfl
theorem kf_X9_7 : Cond.fieldLink RX9 7 "TwinRunsModel" "acts" "[I" ∈ WSl := inG (in_t3 (List.mem_of_getElem? (i := 219) rfl)) rfl
theorem kf_X9_13 : Cond.fieldLink RX9 13 "TwinRunsModel" "firsts" "[I" ∈ WSl := inG (in_t3 (List.mem_of_getElem? (i := 220) rfl)) rfl
theorem kf_X9_16 : Cond.fieldLink RX9 16 "TwinRunsModel" "seconds" "[I" ∈ WSl := inG (in_t3 (List.mem_of_getElem? (i := 221) rfl)) rfl
theorem kf_X9_19 : Cond.fieldLink RX9 19 "TwinRunsModel" "thirds" "[I" ∈ WSl := inG (in_t3 (List.mem_of_getElem? (i := 222) rfl)) rfl
theorem kf_X9_22 : Cond.fieldLink RX9 22 "TwinRunsModel" "lineMany" "[I" ∈ WSl := inG (in_t3 (List.mem_of_getElem? (i := 223) rfl)) rfl
theorem kf_X9_25 : Cond.fieldLink RX9 25 "TwinRunsModel" "silence" "[I" ∈ WSl := inG (in_t3 (List.mem_of_getElem? (i := 224) rfl)) rfl
theorem kf_X9_28 : Cond.fieldLink RX9 28 "TwinRunsModel" "isLaid" "[Z" ∈ WSl := inG (in_t3 (List.mem_of_getElem? (i := 225) rfl)) rfl
theorem kf_X9_32 : Cond.fieldLink RX9 32 "TwinRunsModel" "after" "[I" ∈ WSl := inG (in_t3 (List.mem_of_getElem? (i := 231) rfl)) rfl
theorem kf_X9_35 : Cond.fieldLink RX9 35 "TwinRunsModel" "endOf" "[I" ∈ WSl := inG (in_t3 (List.mem_of_getElem? (i := 232) rfl)) rfl
theorem kf_X9_38 : Cond.fieldLink RX9 38 "TwinRunsModel" "memoryOf" "[I" ∈ WSl := inG (in_t3 (List.mem_of_getElem? (i := 233) rfl)) rfl
theorem kf_X9_41 : Cond.fieldLink RX9 41 "TwinRunsModel" "stepsOf" "[I" ∈ WSl := inG (in_t3 (List.mem_of_getElem? (i := 234) rfl)) rfl
theorem kf_X9_44 : Cond.fieldLink RX9 44 "TwinRunsModel" "shownMany" "[I" ∈ WSl := inG (in_t3 (List.mem_of_getElem? (i := 235) rfl)) rfl
theorem kf_X9_47 : Cond.fieldLink RX9 47 "TwinRunsModel" "shown" "[I" ∈ WSl := inG (in_t3 (List.mem_of_getElem? (i := 236) rfl)) rfl
theorem kf_X9_50 : Cond.fieldLink RX9 50 "TwinRunsModel" "signs" "[I" ∈ WSl := inG (in_t3 (List.mem_of_getElem? (i := 237) rfl)) rfl
theorem kf_X9_53 : Cond.fieldLink RX9 53 "TwinRunsModel" "signMany" "[I" ∈ WSl := inG (in_t3 (List.mem_of_getElem? (i := 238) rfl)) rfl
theorem kf_X9_56 : Cond.fieldLink RX9 56 "TwinRunsModel" "pairsVersion" "I" ∈ WSl := inG (in_t4 (List.mem_of_getElem? (i := 1) rfl)) rfl
theorem kf_X9_60 : Cond.fieldLink RX9 60 "TwinRunsModel" "waits" "[I" ∈ WSl := inG (in_t4 (List.mem_of_getElem? (i := 12) rfl)) rfl
theorem kf_X9_63 : Cond.fieldLink RX9 63 "TwinRunsModel" "toldShape" "[I" ∈ WSl := inG (in_t4 (List.mem_of_getElem? (i := 13) rfl)) rfl
theorem kf_X9_66 : Cond.fieldLink RX9 66 "TwinRunsModel" "shapes" "[I" ∈ WSl := inG (in_t4 (List.mem_of_getElem? (i := 14) rfl)) rfl
theorem kf_X9_69 : Cond.fieldLink RX9 69 "TwinRunsModel" "isStood" "[Z" ∈ WSl := inG (in_t4 (List.mem_of_getElem? (i := 15) rfl)) rfl
theorem kf_X9_73 : Cond.fieldLink RX9 73 "TwinRunsModel" "says" "[I" ∈ WSl := inG (in_t4 (List.mem_of_getElem? (i := 17) rfl)) rfl
theorem kf_X9_76 : Cond.fieldLink RX9 76 "TwinRunsModel" "walkIs" "I" ∈ WSl := inG (in_t4 (List.mem_of_getElem? (i := 19) rfl)) rfl
theorem kf_X9_79 : Cond.fieldLink RX9 79 "TwinRunsModel" "soVersion" "I" ∈ WSl := inG (in_t4 (List.mem_of_getElem? (i := 21) rfl)) rfl
theorem kf_X9_83 : Cond.fieldLink RX9 83 "TwinRunsModel" "wasThere" "[Z" ∈ WSl := inG (in_t4 (List.mem_of_getElem? (i := 23) rfl)) rfl
theorem kf_X9_86 : Cond.fieldLink RX9 86 "TwinRunsModel" "waiting" "[I" ∈ WSl := inG (in_t4 (List.mem_of_getElem? (i := 24) rfl)) rfl
theorem kf_X9_93 : Cond.fieldLink RX9 93 "TwinRunsModel" "version" "I" ∈ WSl := inG (in_t3 (List.mem_of_getElem? (i := 226) rfl)) rfl
theorem kf_X9_96 : Cond.fieldLink RX9 96 "TwinRunsModel" "walkVersion" "I" ∈ WSl := inG (in_t3 (List.mem_of_getElem? (i := 227) rfl)) rfl
theorem kf_X9_131 : Cond.fieldLink RX9 131 "TwinRunsModel" "nextMemory" "I" ∈ WSl := inG (in_t3 (List.mem_of_getElem? (i := 229) rfl)) rfl
theorem kf_X9_137 : Cond.fieldLink RX9 137 "TwinRunsModel" "nextLine" "I" ∈ WSl := inG (in_t3 (List.mem_of_getElem? (i := 228) rfl)) rfl
theorem kf_X9_140 : Cond.fieldLink RX9 140 "TwinRunsModel" "endIs" "I" ∈ WSl := inG (in_t3 (List.mem_of_getElem? (i := 230) rfl)) rfl
theorem kf_X9_188 : Cond.fieldLink RX9 188 "TwinRunsModel" "sayings" "I" ∈ WSl := inG (in_t3 (List.mem_of_getElem? (i := 239) rfl)) rfl
theorem kf_X9_218 : Cond.fieldLink RX9 218 "TwinRunsModel" "brokenMany" "I" ∈ WSl := inG (in_t4 (List.mem_of_getElem? (i := 2) rfl)) rfl
theorem kf_X9_221 : Cond.fieldLink RX9 221 "TwinRunsModel" "brokenFirst" "I" ∈ WSl := inG (in_t4 (List.mem_of_getElem? (i := 3) rfl)) rfl
theorem kf_X9_224 : Cond.fieldLink RX9 224 "TwinRunsModel" "meantMany" "I" ∈ WSl := inG (in_t4 (List.mem_of_getElem? (i := 4) rfl)) rfl
theorem kf_X9_227 : Cond.fieldLink RX9 227 "TwinRunsModel" "lone" "I" ∈ WSl := inG (in_t4 (List.mem_of_getElem? (i := 5) rfl)) rfl
theorem kf_X9_230 : Cond.fieldLink RX9 230 "TwinRunsModel" "pairsOf" "I" ∈ WSl := inG (in_t4 (List.mem_of_getElem? (i := 0) rfl)) rfl
theorem kf_X9_240 : Cond.fieldLink RX9 240 "TwinRunsModel" "oneLine" "I" ∈ WSl := inG (in_t4 (List.mem_of_getElem? (i := 6) rfl)) rfl
theorem kf_X9_243 : Cond.fieldLink RX9 243 "TwinRunsModel" "oneMemory" "I" ∈ WSl := inG (in_t4 (List.mem_of_getElem? (i := 7) rfl)) rfl
theorem kf_X9_246 : Cond.fieldLink RX9 246 "TwinRunsModel" "oneSteps" "I" ∈ WSl := inG (in_t4 (List.mem_of_getElem? (i := 8) rfl)) rfl
theorem kf_X9_249 : Cond.fieldLink RX9 249 "TwinRunsModel" "twoLine" "I" ∈ WSl := inG (in_t4 (List.mem_of_getElem? (i := 9) rfl)) rfl
theorem kf_X9_252 : Cond.fieldLink RX9 252 "TwinRunsModel" "twoMemory" "I" ∈ WSl := inG (in_t4 (List.mem_of_getElem? (i := 10) rfl)) rfl
theorem kf_X9_255 : Cond.fieldLink RX9 255 "TwinRunsModel" "twoSteps" "I" ∈ WSl := inG (in_t4 (List.mem_of_getElem? (i := 11) rfl)) rfl
theorem kf_X9_278 : Cond.fieldLink RX9 278 "TwinRunsModel" "mostMoves" "I" ∈ WSl := inG (in_t4 (List.mem_of_getElem? (i := 16) rfl)) rfl
theorem kf_X9_281 : Cond.fieldLink RX9 281 "TwinRunsModel" "walkOf" "I" ∈ WSl := inG (in_t4 (List.mem_of_getElem? (i := 18) rfl)) rfl
theorem kf_X9_300 : Cond.fieldLink RX9 300 "TwinRunsModel" "soOf" "I" ∈ WSl := inG (in_t4 (List.mem_of_getElem? (i := 20) rfl)) rfl
theorem kf_X9_306 : Cond.fieldLink RX9 306 "TwinRunsModel" "soIs" "I" ∈ WSl := inG (in_t4 (List.mem_of_getElem? (i := 22) rfl)) rfl
theorem kf_X9_322 : Cond.fieldLink RX9 322 "TwinRunsModel" "waitingMany" "I" ∈ WSl := inG (in_t4 (List.mem_of_getElem? (i := 25) rfl)) rfl
theorem km_L_9 : Cond.methodLink RL 9 yX8_init ∈ WSl := inG (in_t1 (List.mem_of_getElem? (i := 17) rfl)) rfl
theorem km_L_12 : Cond.methodLink RL 12 yX9_init ∈ WSl := inG (in_t3 (List.mem_of_getElem? (i := 207) rfl)) rfl
theorem km_L_13 : Cond.methodLink RL 13 yX8_line ∈ WSl := inG (in_t2 (List.mem_of_getElem? (i := 63) rfl)) rfl
theorem km_L_17 : Cond.methodLink RL 17 yX9_line ∈ WSl := inG (in_t4 (List.mem_of_getElem? (i := 122) rfl)) rfl
theorem km_L_18 : Cond.methodLink RL 18 yX8_change ∈ WSl := inG (in_t2 (List.mem_of_getElem? (i := 84) rfl)) rfl
theorem km_L_22 : Cond.methodLink RL 22 yX9_change ∈ WSl := inG (in_t4 (List.mem_of_getElem? (i := 148) rfl)) rfl
theorem km_L_23 : Cond.methodLink RL 23 yX8_clear ∈ WSl := inG (in_t2 (List.mem_of_getElem? (i := 88) rfl)) rfl
theorem km_L_27 : Cond.methodLink RL 27 yX9_clear ∈ WSl := inG (in_t4 (List.mem_of_getElem? (i := 152) rfl)) rfl
theorem km_L_28 : Cond.methodLink RL 28 yX8_silent ∈ WSl := inG (in_t2 (List.mem_of_getElem? (i := 96) rfl)) rfl
theorem km_L_32 : Cond.methodLink RL 32 yX9_silent ∈ WSl := inG (in_t4 (List.mem_of_getElem? (i := 156) rfl)) rfl
theorem km_L_33 : Cond.methodLink RL 33 yX8_run ∈ WSl := inG (in_t2 (List.mem_of_getElem? (i := 100) rfl)) rfl
theorem km_L_37 : Cond.methodLink RL 37 yX9_run ∈ WSl := inG (in_t4 (List.mem_of_getElem? (i := 161) rfl)) rfl
theorem km_L_38 : Cond.methodLink RL 38 yX8_say ∈ WSl := inG (in_t2 (List.mem_of_getElem? (i := 134) rfl)) rfl
theorem km_L_41 : Cond.methodLink RL 41 yX9_say ∈ WSl := inG (in_t4 (List.mem_of_getElem? (i := 194) rfl)) rfl
theorem km_L_42 : Cond.methodLink RL 42 yX8_wipe ∈ WSl := inG (in_t2 (List.mem_of_getElem? (i := 138) rfl)) rfl
theorem km_L_46 : Cond.methodLink RL 46 yX9_wipe ∈ WSl := inG (in_t4 (List.mem_of_getElem? (i := 199) rfl)) rfl
theorem km_L_47 : Cond.methodLink RL 47 yX8_fault ∈ WSl := inG (in_t2 (List.mem_of_getElem? (i := 142) rfl)) rfl
theorem km_L_50 : Cond.methodLink RL 50 yX9_fault ∈ WSl := inG (in_t4 (List.mem_of_getElem? (i := 203) rfl)) rfl
theorem km_L_51 : Cond.methodLink RL 51 yX8_saying ∈ WSl := inG (in_t2 (List.mem_of_getElem? (i := 162) rfl)) rfl
theorem km_L_54 : Cond.methodLink RL 54 yX9_saying ∈ WSl := inG (in_t4 (List.mem_of_getElem? (i := 221) rfl)) rfl
theorem km_L_55 : Cond.methodLink RL 55 yX8_pair ∈ WSl := inG (in_t2 (List.mem_of_getElem? (i := 173) rfl)) rfl
theorem km_L_58 : Cond.methodLink RL 58 yX9_pair ∈ WSl := inG (in_t4 (List.mem_of_getElem? (i := 226) rfl)) rfl
theorem km_L_59 : Cond.methodLink RL 59 yX8_holds ∈ WSl := inG (in_t2 (List.mem_of_getElem? (i := 209) rfl)) rfl
theorem km_L_63 : Cond.methodLink RL 63 yX9_holds ∈ WSl := inG (in_t5 (List.mem_of_getElem? (i := 17) rfl)) rfl
theorem km_L_64 : Cond.methodLink RL 64 yX8_part ∈ WSl := inG (in_t2 (List.mem_of_getElem? (i := 232) rfl)) rfl
theorem km_L_67 : Cond.methodLink RL 67 yX9_part ∈ WSl := inG (in_t5 (List.mem_of_getElem? (i := 29) rfl)) rfl
theorem km_L_68 : Cond.methodLink RL 68 yX8_wait ∈ WSl := inG (in_t3 (List.mem_of_getElem? (i := 3) rfl)) rfl
theorem km_L_71 : Cond.methodLink RL 71 yX9_wait ∈ WSl := inG (in_t5 (List.mem_of_getElem? (i := 45) rfl)) rfl
theorem km_L_72 : Cond.methodLink RL 72 yX8_walk ∈ WSl := inG (in_t3 (List.mem_of_getElem? (i := 7) rfl)) rfl
theorem km_L_75 : Cond.methodLink RL 75 yX9_walk ∈ WSl := inG (in_t5 (List.mem_of_getElem? (i := 51) rfl)) rfl
theorem km_L_76 : Cond.methodLink RL 76 yX8_shape ∈ WSl := inG (in_t3 (List.mem_of_getElem? (i := 44) rfl)) rfl
theorem km_L_79 : Cond.methodLink RL 79 yX9_shape ∈ WSl := inG (in_t5 (List.mem_of_getElem? (i := 71) rfl)) rfl
theorem km_L_80 : Cond.methodLink RL 80 yX8_tell ∈ WSl := inG (in_t3 (List.mem_of_getElem? (i := 48) rfl)) rfl
theorem km_L_83 : Cond.methodLink RL 83 yX9_tell ∈ WSl := inG (in_t5 (List.mem_of_getElem? (i := 78) rfl)) rfl
theorem km_L_84 : Cond.methodLink RL 84 yX8_fails ∈ WSl := inG (in_t3 (List.mem_of_getElem? (i := 52) rfl)) rfl
theorem km_L_87 : Cond.methodLink RL 87 yX9_fails ∈ WSl := inG (in_t5 (List.mem_of_getElem? (i := 82) rfl)) rfl
theorem km_L_88 : Cond.methodLink RL 88 yX8_so ∈ WSl := inG (in_t3 (List.mem_of_getElem? (i := 84) rfl)) rfl
theorem km_L_91 : Cond.methodLink RL 91 yX9_so ∈ WSl := inG (in_t5 (List.mem_of_getElem? (i := 90) rfl)) rfl
theorem km_L_92 : Cond.methodLink RL 92 yX8_fit ∈ WSl := inG (in_t3 (List.mem_of_getElem? (i := 129) rfl)) rfl
theorem km_L_95 : Cond.methodLink RL 95 yX9_fit ∈ WSl := inG (in_t5 (List.mem_of_getElem? (i := 105) rfl)) rfl
theorem km_L_96 : Cond.methodLink RL 96 yX8_far ∈ WSl := inG (in_t3 (List.mem_of_getElem? (i := 142) rfl)) rfl
theorem km_L_99 : Cond.methodLink RL 99 yX9_far ∈ WSl := inG (in_t5 (List.mem_of_getElem? (i := 114) rfl)) rfl
theorem km_L_100 : Cond.methodLink RL 100 yX8_changed ∈ WSl := inG (in_t3 (List.mem_of_getElem? (i := 153) rfl)) rfl
theorem km_L_103 : Cond.methodLink RL 103 yX9_changed ∈ WSl := inG (in_t5 (List.mem_of_getElem? (i := 118) rfl)) rfl
theorem km_L_104 : Cond.methodLink RL 104 yX8_orders ∈ WSl := inG (in_t3 (List.mem_of_getElem? (i := 166) rfl)) rfl
theorem km_L_107 : Cond.methodLink RL 107 yX9_orders ∈ WSl := inG (in_t5 (List.mem_of_getElem? (i := 126) rfl)) rfl
theorem km_L_108 : Cond.methodLink RL 108 yX8_told ∈ WSl := inG (in_t3 (List.mem_of_getElem? (i := 201) rfl)) rfl
theorem km_L_111 : Cond.methodLink RL 111 yX9_told ∈ WSl := inG (in_t5 (List.mem_of_getElem? (i := 140) rfl)) rfl
theorem km_X0_13 : Cond.methodLink RX0 13 yX5_deniedAhead ∈ WSl := inG (in_t2 (List.mem_of_getElem? (i := 185) rfl)) rfl
theorem km_X0_28 : Cond.methodLink RX0 28 yX5_deniedBehind ∈ WSl := inG (in_t2 (List.mem_of_getElem? (i := 197) rfl)) rfl
theorem km_X2_27 : Cond.methodLink RX2 27 yJ7_fill_d0a16 ∈ WSl := inG (in_t3 (List.mem_of_getElem? (i := 174) rfl)) rfl
theorem km_X2_39 : Cond.methodLink RX2 39 yX2_add ∈ WSl := inG (in_t3 (List.mem_of_getElem? (i := 178) rfl)) rfl
theorem km_X2_43 : Cond.methodLink RX2 43 yX4_steppedState ∈ WSl := inG (in_t3 (List.mem_of_getElem? (i := 186) rfl)) rfl
theorem km_X2_46 : Cond.methodLink RX2 46 yX2_isSeen ∈ WSl := inG (in_t3 (List.mem_of_getElem? (i := 182) rfl)) rfl
theorem km_X2_51 : Cond.methodLink RX2 51 yX2_isEnd ∈ WSl := inG (in_t3 (List.mem_of_getElem? (i := 191) rfl)) rfl
theorem km_X3_19 : Cond.methodLink RX3 19 yX4_traceAll ∈ WSl := inG (in_t2 (List.mem_of_getElem? (i := 220) rfl)) rfl
theorem km_X3_36 : Cond.methodLink RX3 36 yX0_take ∈ WSl := inG (in_t2 (List.mem_of_getElem? (i := 225) rfl)) rfl
theorem km_X3_42 : Cond.methodLink RX3 42 yX3_judgeStart ∈ WSl := inG (in_t2 (List.mem_of_getElem? (i := 226) rfl)) rfl
theorem km_X3_46 : Cond.methodLink RX3 46 yX0_isMeant ∈ WSl := inG (in_t2 (List.mem_of_getElem? (i := 230) rfl)) rfl
theorem km_X3_50 : Cond.methodLink RX3 50 yX0_isBroken ∈ WSl := inG (in_t2 (List.mem_of_getElem? (i := 231) rfl)) rfl
theorem km_X4_71 : Cond.methodLink RX4 71 yX4_stateAt ∈ WSl := inG (in_t2 (List.mem_of_getElem? (i := 111) rfl)) rfl
theorem km_X4_74 : Cond.methodLink RX4 74 yX4_stepped ∈ WSl := inG (in_t2 (List.mem_of_getElem? (i := 115) rfl)) rfl
theorem km_X4_77 : Cond.methodLink RX4 77 yX4_trace ∈ WSl := inG (in_t2 (List.mem_of_getElem? (i := 224) rfl)) rfl
theorem km_X4_86 : Cond.methodLink RX4 86 yX4_shownUnder ∈ WSl := inG (in_t2 (List.mem_of_getElem? (i := 123) rfl)) rfl
theorem km_X4_90 : Cond.methodLink RX4 90 yX4_countShown ∈ WSl := inG (in_t2 (List.mem_of_getElem? (i := 127) rfl)) rfl
theorem km_X4_96 : Cond.methodLink RX4 96 yJ9_min_7cf53 ∈ WSl := inG (in_t3 (List.mem_of_getElem? (i := 0) rfl)) rfl
theorem km_X4_101 : Cond.methodLink RX4 101 yX4_isSameLine ∈ WSl := inG (in_t3 (List.mem_of_getElem? (i := 161) rfl)) rfl
theorem km_X5_26 : Cond.methodLink RX5 26 yX5_dueBehind ∈ WSl := inG (in_t2 (List.mem_of_getElem? (i := 150) rfl)) rfl
theorem km_X5_30 : Cond.methodLink RX5 30 yX5_isLetter ∈ WSl := inG (in_t2 (List.mem_of_getElem? (i := 153) rfl)) rfl
theorem km_X5_34 : Cond.methodLink RX5 34 yX5_alikePart ∈ WSl := inG (in_t2 (List.mem_of_getElem? (i := 156) rfl)) rfl
theorem km_X5_52 : Cond.methodLink RX5 52 yX5_deniedFrom ∈ WSl := inG (in_t2 (List.mem_of_getElem? (i := 189) rfl)) rfl
theorem km_X5_60 : Cond.methodLink RX5 60 yX5_deniedBy ∈ WSl := inG (in_t2 (List.mem_of_getElem? (i := 194) rfl)) rfl
theorem km_X6_23 : Cond.methodLink RX6 23 yX4_loudLines ∈ WSl := inG (in_t3 (List.mem_of_getElem? (i := 102) rfl)) rfl
theorem km_X6_29 : Cond.methodLink RX6 29 yJ6_bitCount_0f7a4 ∈ WSl := inG (in_t3 (List.mem_of_getElem? (i := 103) rfl)) rfl
theorem km_X6_35 : Cond.methodLink RX6 35 yX4_traceAll ∈ WSl := inG (in_t3 (List.mem_of_getElem? (i := 104) rfl)) rfl
theorem km_X6_38 : Cond.methodLink RX6 38 yX6_joinAll ∈ WSl := inG (in_t3 (List.mem_of_getElem? (i := 105) rfl)) rfl
theorem km_X6_54 : Cond.methodLink RX6 54 yX6_isAlike ∈ WSl := inG (in_t3 (List.mem_of_getElem? (i := 124) rfl)) rfl
theorem km_X6_58 : Cond.methodLink RX6 58 yX0_take ∈ WSl := inG (in_t3 (List.mem_of_getElem? (i := 109) rfl)) rfl
theorem km_X6_67 : Cond.methodLink RX6 67 yX6_joinStart ∈ WSl := inG (in_t3 (List.mem_of_getElem? (i := 111) rfl)) rfl
theorem km_X6_70 : Cond.methodLink RX6 70 yX0_isMeant ∈ WSl := inG (in_t3 (List.mem_of_getElem? (i := 115) rfl)) rfl
theorem km_X6_74 : Cond.methodLink RX6 74 yX0_isBroken ∈ WSl := inG (in_t3 (List.mem_of_getElem? (i := 116) rfl)) rfl
theorem km_X6_77 : Cond.methodLink RX6 77 yX6_join ∈ WSl := inG (in_t3 (List.mem_of_getElem? (i := 117) rfl)) rfl
theorem km_X6_81 : Cond.methodLink RX6 81 yJ9_min_7cf53 ∈ WSl := inG (in_t3 (List.mem_of_getElem? (i := 121) rfl)) rfl
theorem km_X6_87 : Cond.methodLink RX6 87 yJ9_max_7cf53 ∈ WSl := inG (in_t3 (List.mem_of_getElem? (i := 122) rfl)) rfl
theorem km_X6_90 : Cond.methodLink RX6 90 yX4_shownUnder ∈ WSl := inG (in_t3 (List.mem_of_getElem? (i := 128) rfl)) rfl
theorem km_X7_47 : Cond.methodLink RX7 47 yJ7_fill_53178 ∈ WSl := inG (in_t1 (List.mem_of_getElem? (i := 212) rfl)) rfl
theorem km_X7_53 : Cond.methodLink RX7 53 yX4_traceAll ∈ WSl := inG (in_t3 (List.mem_of_getElem? (i := 19) rfl)) rfl
theorem km_X7_58 : Cond.methodLink RX7 58 yX5_deniedAhead ∈ WSl := inG (in_t3 (List.mem_of_getElem? (i := 20) rfl)) rfl
theorem km_X7_69 : Cond.methodLink RX7 69 yX7_walkPair ∈ WSl := inG (in_t3 (List.mem_of_getElem? (i := 21) rfl)) rfl
theorem km_X7_73 : Cond.methodLink RX7 73 yJ9_max_7cf53 ∈ WSl := inG (in_t3 (List.mem_of_getElem? (i := 33) rfl)) rfl
theorem km_X7_82 : Cond.methodLink RX7 82 yX7_standAt ∈ WSl := inG (in_t3 (List.mem_of_getElem? (i := 25) rfl)) rfl
theorem km_X7_85 : Cond.methodLink RX7 85 yX1_shapeOf ∈ WSl := inG (in_t3 (List.mem_of_getElem? (i := 29) rfl)) rfl
theorem km_X7_88 : Cond.methodLink RX7 88 yX7_isKept ∈ WSl := inG (in_t3 (List.mem_of_getElem? (i := 60) rfl)) rfl
theorem km_X7_92 : Cond.methodLink RX7 92 yX7_moveAll ∈ WSl := inG (in_t3 (List.mem_of_getElem? (i := 64) rfl)) rfl
theorem km_X7_96 : Cond.methodLink RX7 96 yX7_askNext ∈ WSl := inG (in_t3 (List.mem_of_getElem? (i := 72) rfl)) rfl
theorem km_X7_100 : Cond.methodLink RX7 100 yX1_deniedBy ∈ WSl := inG (in_t3 (List.mem_of_getElem? (i := 76) rfl)) rfl
theorem km_X7_103 : Cond.methodLink RX7 103 yX7_areKept ∈ WSl := inG (in_t3 (List.mem_of_getElem? (i := 80) rfl)) rfl
theorem km_X7_106 : Cond.methodLink RX7 106 yX4_steppedState ∈ WSl := inG (in_t3 (List.mem_of_getElem? (i := 68) rfl)) rfl
theorem km_X8_11 : Cond.methodLink RX8 11 yX1_init ∈ WSl := inG (in_t1 (List.mem_of_getElem? (i := 25) rfl)) rfl
theorem km_X8_18 : Cond.methodLink RX8 18 yX4_init ∈ WSl := inG (in_t1 (List.mem_of_getElem? (i := 46) rfl)) rfl
theorem km_X8_27 : Cond.methodLink RX8 27 yX5_init ∈ WSl := inG (in_t1 (List.mem_of_getElem? (i := 116) rfl)) rfl
theorem km_X8_38 : Cond.methodLink RX8 38 yX0_init ∈ WSl := inG (in_t1 (List.mem_of_getElem? (i := 139) rfl)) rfl
theorem km_X8_45 : Cond.methodLink RX8 45 yX3_init ∈ WSl := inG (in_t1 (List.mem_of_getElem? (i := 162) rfl)) rfl
theorem km_X8_54 : Cond.methodLink RX8 54 yX6_init ∈ WSl := inG (in_t1 (List.mem_of_getElem? (i := 192) rfl)) rfl
theorem km_X8_61 : Cond.methodLink RX8 61 yX7_init ∈ WSl := inG (in_t1 (List.mem_of_getElem? (i := 208) rfl)) rfl
theorem km_X8_68 : Cond.methodLink RX8 68 yX2_init ∈ WSl := inG (in_t2 (List.mem_of_getElem? (i := 16) rfl)) rfl
theorem km_X8_73 : Cond.methodLink RX8 73 yX8_isProgram ∈ WSl := inG (in_t2 (List.mem_of_getElem? (i := 67) rfl)) rfl
theorem km_X8_77 : Cond.methodLink RX8 77 yX8_isAct ∈ WSl := inG (in_t2 (List.mem_of_getElem? (i := 73) rfl)) rfl
theorem km_X8_84 : Cond.methodLink RX8 84 yX4_put ∈ WSl := inG (in_t2 (List.mem_of_getElem? (i := 76) rfl)) rfl
theorem km_X8_88 : Cond.methodLink RX8 88 yX8_forget ∈ WSl := inG (in_t2 (List.mem_of_getElem? (i := 80) rfl)) rfl
theorem km_X8_95 : Cond.methodLink RX8 95 yX4_hush ∈ WSl := inG (in_t2 (List.mem_of_getElem? (i := 92) rfl)) rfl
theorem km_X8_99 : Cond.methodLink RX8 99 yX8_isWithin ∈ WSl := inG (in_t2 (List.mem_of_getElem? (i := 70) rfl)) rfl
theorem km_X8_106 : Cond.methodLink RX8 106 yX8_isMemory ∈ WSl := inG (in_t2 (List.mem_of_getElem? (i := 104) rfl)) rfl
theorem km_X8_109 : Cond.methodLink RX8 109 yX4_trace ∈ WSl := inG (in_t2 (List.mem_of_getElem? (i := 107) rfl)) rfl
theorem km_X8_124 : Cond.methodLink RX8 124 yX4_shownAt ∈ WSl := inG (in_t2 (List.mem_of_getElem? (i := 130) rfl)) rfl
theorem km_X8_132 : Cond.methodLink RX8 132 yX5_firstFault ∈ WSl := inG (in_t2 (List.mem_of_getElem? (i := 146) rfl)) rfl
theorem km_X8_136 : Cond.methodLink RX8 136 yX5_take ∈ WSl := inG (in_t2 (List.mem_of_getElem? (i := 166) rfl)) rfl
theorem km_X8_140 : Cond.methodLink RX8 140 yX8_isSaying ∈ WSl := inG (in_t2 (List.mem_of_getElem? (i := 177) rfl)) rfl
theorem km_X8_143 : Cond.methodLink RX8 143 yX0_take ∈ WSl := inG (in_t2 (List.mem_of_getElem? (i := 181) rfl)) rfl
theorem km_X8_146 : Cond.methodLink RX8 146 yX0_isMeant ∈ WSl := inG (in_t2 (List.mem_of_getElem? (i := 201) rfl)) rfl
theorem km_X8_149 : Cond.methodLink RX8 149 yX0_isBroken ∈ WSl := inG (in_t2 (List.mem_of_getElem? (i := 205) rfl)) rfl
theorem km_X8_153 : Cond.methodLink RX8 153 yX8_keyOf ∈ WSl := inG (in_t2 (List.mem_of_getElem? (i := 213) rfl)) rfl
theorem km_X8_160 : Cond.methodLink RX8 160 yX3_judge ∈ WSl := inG (in_t2 (List.mem_of_getElem? (i := 216) rfl)) rfl
theorem km_X8_176 : Cond.methodLink RX8 176 yX4_lineAhead ∈ WSl := inG (in_t2 (List.mem_of_getElem? (i := 236) rfl)) rfl
theorem km_X8_182 : Cond.methodLink RX8 182 yX8_makeWalk ∈ WSl := inG (in_t3 (List.mem_of_getElem? (i := 11) rfl)) rfl
theorem km_X8_186 : Cond.methodLink RX8 186 yX7_countPlaces ∈ WSl := inG (in_t3 (List.mem_of_getElem? (i := 36) rfl)) rfl
theorem km_X8_189 : Cond.methodLink RX8 189 yX7_countUnlike ∈ WSl := inG (in_t3 (List.mem_of_getElem? (i := 40) rfl)) rfl
theorem km_X8_201 : Cond.methodLink RX8 201 yX7_firstFailing ∈ WSl := inG (in_t3 (List.mem_of_getElem? (i := 56) rfl)) rfl
theorem km_X8_205 : Cond.methodLink RX8 205 yX4_loudLines ∈ WSl := inG (in_t3 (List.mem_of_getElem? (i := 88) rfl)) rfl
theorem km_X8_208 : Cond.methodLink RX8 208 yJ6_bitCount_0f7a4 ∈ WSl := inG (in_t3 (List.mem_of_getElem? (i := 92) rfl)) rfl
theorem km_X8_214 : Cond.methodLink RX8 214 yX6_fewest ∈ WSl := inG (in_t3 (List.mem_of_getElem? (i := 98) rfl)) rfl
theorem km_X8_218 : Cond.methodLink RX8 218 yX8_digitsOf ∈ WSl := inG (in_t3 (List.mem_of_getElem? (i := 133) rfl)) rfl
theorem km_X8_221 : Cond.methodLink RX8 221 yX4_beginAlike ∈ WSl := inG (in_t3 (List.mem_of_getElem? (i := 137) rfl)) rfl
theorem km_X8_225 : Cond.methodLink RX8 225 yX4_traceAll ∈ WSl := inG (in_t3 (List.mem_of_getElem? (i := 146) rfl)) rfl
theorem km_X8_228 : Cond.methodLink RX8 228 yX8_valueOf ∈ WSl := inG (in_t3 (List.mem_of_getElem? (i := 147) rfl)) rfl
theorem km_X8_231 : Cond.methodLink RX8 231 yJ9_min_7cf53 ∈ WSl := inG (in_t3 (List.mem_of_getElem? (i := 148) rfl)) rfl
theorem km_X8_236 : Cond.methodLink RX8 236 yX8_withValue ∈ WSl := inG (in_t3 (List.mem_of_getElem? (i := 136) rfl)) rfl
theorem km_X8_239 : Cond.methodLink RX8 239 yJ9_abs_0f7a4 ∈ WSl := inG (in_t3 (List.mem_of_getElem? (i := 149) rfl)) rfl
theorem km_X8_242 : Cond.methodLink RX8 242 yJ9_max_7cf53 ∈ WSl := inG (in_t3 (List.mem_of_getElem? (i := 152) rfl)) rfl
theorem km_X8_245 : Cond.methodLink RX8 245 yX4_unlikeLines ∈ WSl := inG (in_t3 (List.mem_of_getElem? (i := 157) rfl)) rfl
theorem km_X8_256 : Cond.methodLink RX8 256 yX2_reach ∈ WSl := inG (in_t3 (List.mem_of_getElem? (i := 170) rfl)) rfl
theorem km_X8_260 : Cond.methodLink RX8 260 yX2_countEnds ∈ WSl := inG (in_t3 (List.mem_of_getElem? (i := 187) rfl)) rfl
theorem km_X8_263 : Cond.methodLink RX8 263 yX2_leastEnd ∈ WSl := inG (in_t3 (List.mem_of_getElem? (i := 196) rfl)) rfl
theorem km_X8_266 : Cond.methodLink RX8 266 yX2_isEnd ∈ WSl := inG (in_t3 (List.mem_of_getElem? (i := 200) rfl)) rfl
theorem km_X8_270 : Cond.methodLink RX8 270 yX7_walkAll ∈ WSl := inG (in_t3 (List.mem_of_getElem? (i := 15) rfl)) rfl
theorem km_X9_89 : Cond.methodLink RX9 89 yX9_saysOf ∈ WSl := inG (in_t3 (List.mem_of_getElem? (i := 213) rfl)) rfl
theorem km_X9_101 : Cond.methodLink RX9 101 yX9_in ∈ WSl := inG (in_t4 (List.mem_of_getElem? (i := 130) rfl)) rfl
theorem km_X9_105 : Cond.methodLink RX9 105 yX9_isVariable ∈ WSl := inG (in_t4 (List.mem_of_getElem? (i := 136) rfl)) rfl
theorem km_X9_111 : Cond.methodLink RX9 111 yX9_isProgram ∈ WSl := inG (in_t4 (List.mem_of_getElem? (i := 126) rfl)) rfl
theorem km_X9_114 : Cond.methodLink RX9 114 yX9_isLine ∈ WSl := inG (in_t4 (List.mem_of_getElem? (i := 133) rfl)) rfl
theorem km_X9_118 : Cond.methodLink RX9 118 yX9_lay ∈ WSl := inG (in_t4 (List.mem_of_getElem? (i := 140) rfl)) rfl
theorem km_X9_122 : Cond.methodLink RX9 122 yX9_isOther ∈ WSl := inG (in_t4 (List.mem_of_getElem? (i := 144) rfl)) rfl
theorem km_X9_128 : Cond.methodLink RX9 128 yX9_valueOf ∈ WSl := inG (in_t3 (List.mem_of_getElem? (i := 216) rfl)) rfl
theorem km_X9_134 : Cond.methodLink RX9 134 yX9_held ∈ WSl := inG (in_t4 (List.mem_of_getElem? (i := 183) rfl)) rfl
theorem km_X9_143 : Cond.methodLink RX9 143 yX9_with ∈ WSl := inG (in_t4 (List.mem_of_getElem? (i := 187) rfl)) rfl
theorem km_X9_147 : Cond.methodLink RX9 147 yX9_work ∈ WSl := inG (in_t4 (List.mem_of_getElem? (i := 179) rfl)) rfl
theorem km_X9_151 : Cond.methodLink RX9 151 yX9_layTable ∈ WSl := inG (in_t4 (List.mem_of_getElem? (i := 175) rfl)) rfl
theorem km_X9_154 : Cond.methodLink RX9 154 yX9_step ∈ WSl := inG (in_t4 (List.mem_of_getElem? (i := 190) rfl)) rfl
theorem km_X9_157 : Cond.methodLink RX9 157 yX9_runOne ∈ WSl := inG (in_t4 (List.mem_of_getElem? (i := 171) rfl)) rfl
theorem km_X9_162 : Cond.methodLink RX9 162 yX9_isStart ∈ WSl := inG (in_t4 (List.mem_of_getElem? (i := 165) rfl)) rfl
theorem km_X9_175 : Cond.methodLink RX9 175 yX9_isLetter ∈ WSl := inG (in_t4 (List.mem_of_getElem? (i := 210) rfl)) rfl
theorem km_X9_178 : Cond.methodLink RX9 178 yX9_isOfEnd ∈ WSl := inG (in_t4 (List.mem_of_getElem? (i := 215) rfl)) rfl
theorem km_X9_181 : Cond.methodLink RX9 181 yX9_isHow ∈ WSl := inG (in_t4 (List.mem_of_getElem? (i := 218) rfl)) rfl
theorem km_X9_184 : Cond.methodLink RX9 184 yX9_stepOf ∈ WSl := inG (in_t4 (List.mem_of_getElem? (i := 207) rfl)) rfl
theorem km_X9_191 : Cond.methodLink RX9 191 yX9_fault ∈ WSl := inG (in_t4 (List.mem_of_getElem? (i := 225) rfl)) rfl
theorem km_X9_195 : Cond.methodLink RX9 195 yX9_stand ∈ WSl := inG (in_t5 (List.mem_of_getElem? (i := 6) rfl)) rfl
theorem km_X9_199 : Cond.methodLink RX9 199 yX9_markOf ∈ WSl := inG (in_t4 (List.mem_of_getElem? (i := 238) rfl)) rfl
theorem km_X9_203 : Cond.methodLink RX9 203 yX9_allStand ∈ WSl := inG (in_t5 (List.mem_of_getElem? (i := 2) rfl)) rfl
theorem km_X9_206 : Cond.methodLink RX9 206 yX9_areShownAlike ∈ WSl := inG (in_t5 (List.mem_of_getElem? (i := 13) rfl)) rfl
theorem km_X9_209 : Cond.methodLink RX9 209 yX9_isSaying ∈ WSl := inG (in_t4 (List.mem_of_getElem? (i := 230) rfl)) rfl
theorem km_X9_212 : Cond.methodLink RX9 212 yX9_isMeant ∈ WSl := inG (in_t4 (List.mem_of_getElem? (i := 234) rfl)) rfl
theorem km_X9_215 : Cond.methodLink RX9 215 yX9_isAsSaid ∈ WSl := inG (in_t5 (List.mem_of_getElem? (i := 9) rfl)) rfl
theorem km_X9_233 : Cond.methodLink RX9 233 yX9_runAll ∈ WSl := inG (in_t5 (List.mem_of_getElem? (i := 21) rfl)) rfl
theorem km_X9_237 : Cond.methodLink RX9 237 yX9_findPairs ∈ WSl := inG (in_t5 (List.mem_of_getElem? (i := 25) rfl)) rfl
theorem km_X9_258 : Cond.methodLink RX9 258 yX9_beginBoth ∈ WSl := inG (in_t5 (List.mem_of_getElem? (i := 33) rfl)) rfl
theorem km_X9_262 : Cond.methodLink RX9 262 yX9_stepFirst ∈ WSl := inG (in_t5 (List.mem_of_getElem? (i := 37) rfl)) rfl
theorem km_X9_265 : Cond.methodLink RX9 265 yX9_stepSecond ∈ WSl := inG (in_t5 (List.mem_of_getElem? (i := 41) rfl)) rfl
theorem km_X9_272 : Cond.methodLink RX9 272 yX9_standThere ∈ WSl := inG (in_t5 (List.mem_of_getElem? (i := 63) rfl)) rfl
theorem km_X9_275 : Cond.methodLink RX9 275 yX9_moverAt ∈ WSl := inG (in_t5 (List.mem_of_getElem? (i := 67) rfl)) rfl
theorem km_X9_284 : Cond.methodLink RX9 284 yX9_walkOne ∈ WSl := inG (in_t5 (List.mem_of_getElem? (i := 59) rfl)) rfl
theorem km_X9_287 : Cond.methodLink RX9 287 yX9_walkAll ∈ WSl := inG (in_t5 (List.mem_of_getElem? (i := 55) rfl)) rfl
theorem km_X9_290 : Cond.methodLink RX9 290 yX9_isPlace ∈ WSl := inG (in_t5 (List.mem_of_getElem? (i := 75) rfl)) rfl
theorem km_X9_294 : Cond.methodLink RX9 294 yX9_isKept ∈ WSl := inG (in_t5 (List.mem_of_getElem? (i := 86) rfl)) rfl
theorem km_X9_297 : Cond.methodLink RX9 297 yX9_ones ∈ WSl := inG (in_t5 (List.mem_of_getElem? (i := 94) rfl)) rfl
theorem km_X9_303 : Cond.methodLink RX9 303 yX9_bestSilence ∈ WSl := inG (in_t5 (List.mem_of_getElem? (i := 97) rfl)) rfl
theorem km_X9_309 : Cond.methodLink RX9 309 yX9_noneBroken ∈ WSl := inG (in_t5 (List.mem_of_getElem? (i := 101) rfl)) rfl
theorem km_X9_316 : Cond.methodLink RX9 316 yX9_areAlikeIn ∈ WSl := inG (in_t5 (List.mem_of_getElem? (i := 111) rfl)) rfl
theorem km_X9_319 : Cond.methodLink RX9 319 yX9_unlikeLines ∈ WSl := inG (in_t5 (List.mem_of_getElem? (i := 122) rfl)) rfl
theorem km_X9_325 : Cond.methodLink RX9 325 yX9_come ∈ WSl := inG (in_t5 (List.mem_of_getElem? (i := 135) rfl)) rfl
theorem km_X9_330 : Cond.methodLink RX9 330 yX9_findOrders ∈ WSl := inG (in_t5 (List.mem_of_getElem? (i := 131) rfl)) rfl
theorem ki_J6_265 : Cond.constant RJ6 265 (1431655765) ∈ WSl := inG (in_t3 (List.mem_of_getElem? (i := 95) rfl)) rfl
theorem ki_J6_266 : Cond.constant RJ6 266 (858993459) ∈ WSl := inG (in_t3 (List.mem_of_getElem? (i := 96) rfl)) rfl
theorem ki_J6_267 : Cond.constant RJ6 267 (252645135) ∈ WSl := inG (in_t3 (List.mem_of_getElem? (i := 97) rfl)) rfl
theorem ki_X2_15 : Cond.constant RX2 15 (43264) ∈ WSl := inG (in_t2 (List.mem_of_getElem? (i := 20) rfl)) rfl
theorem ki_X2_50 : Cond.constant RX2 50 (43008) ∈ WSl := inG (in_t3 (List.mem_of_getElem? (i := 195) rfl)) rfl
theorem ki_X9_72 : Cond.constant RX9 72 (65536) ∈ WSl := inG (in_t3 (List.mem_of_getElem? (i := 211) rfl)) rfl
theorem ki_X9_82 : Cond.constant RX9 82 (43264) ∈ WSl := inG (in_t3 (List.mem_of_getElem? (i := 212) rfl)) rfl
theorem ki_X9_333 : Cond.constant RX9 333 (43008) ∈ WSl := inG (in_t5 (List.mem_of_getElem? (i := 139) rfl)) rfl
theorem kl_X4_94 : Cond.constantLong RX4 94 (1125899906842623) ∈ WSl := inG (in_t3 (List.mem_of_getElem? (i := 141) rfl)) rfl
theorem kl_X5_40 : Cond.constantLong RX5 40 (3377699720527872) ∈ WSl := inG (in_t2 (List.mem_of_getElem? (i := 159) rfl)) rfl
theorem kl_X5_42 : Cond.constantLong RX5 42 (1125899906842623) ∈ WSl := inG (in_t2 (List.mem_of_getElem? (i := 160) rfl)) rfl
theorem kl_X5_44 : Cond.constantLong RX5 44 (139611588448485376) ∈ WSl := inG (in_t2 (List.mem_of_getElem? (i := 161) rfl)) rfl
theorem kl_X6_48 : Cond.constantLong RX6 48 (1125899906842623) ∈ WSl := inG (in_t3 (List.mem_of_getElem? (i := 123) rfl)) rfl
theorem kl_X6_65 : Cond.constantLong RX6 65 (-1125899906842624) ∈ WSl := inG (in_t3 (List.mem_of_getElem? (i := 110) rfl)) rfl
theorem kl_X8_253 : Cond.constantLong RX8 253 (4503599627370495) ∈ WSl := inG (in_t3 (List.mem_of_getElem? (i := 165) rfl)) rfl
theorem kl_X9_99 : Cond.constantLong RX9 99 (3) ∈ WSl := inG (in_t4 (List.mem_of_getElem? (i := 129) rfl)) rfl
theorem kl_X9_109 : Cond.constantLong RX9 109 (12) ∈ WSl := inG (in_t4 (List.mem_of_getElem? (i := 139) rfl)) rfl
theorem kl_X9_126 : Cond.constantLong RX9 126 (4095) ∈ WSl := inG (in_t4 (List.mem_of_getElem? (i := 160) rfl)) rfl
theorem kl_X9_160 : Cond.constantLong RX9 160 (255) ∈ WSl := inG (in_t4 (List.mem_of_getElem? (i := 168) rfl)) rfl
theorem kl_X9_165 : Cond.constantLong RX9 165 (10) ∈ WSl := inG (in_t4 (List.mem_of_getElem? (i := 169) rfl)) rfl
theorem kl_X9_167 : Cond.constantLong RX9 167 (33) ∈ WSl := inG (in_t4 (List.mem_of_getElem? (i := 170) rfl)) rfl
theorem kl_X9_169 : Cond.constantLong RX9 169 (126) ∈ WSl := inG (in_t4 (List.mem_of_getElem? (i := 198) rfl)) rfl
theorem kl_X9_171 : Cond.constantLong RX9 171 (97) ∈ WSl := inG (in_t4 (List.mem_of_getElem? (i := 213) rfl)) rfl
theorem kl_X9_173 : Cond.constantLong RX9 173 (100) ∈ WSl := inG (in_t4 (List.mem_of_getElem? (i := 214) rfl)) rfl
theorem kl_X9_268 : Cond.constantLong RX9 268 (11) ∈ WSl := inG (in_t5 (List.mem_of_getElem? (i := 49) rfl)) rfl
theorem kl_X9_270 : Cond.constantLong RX9 270 (2) ∈ WSl := inG (in_t5 (List.mem_of_getElem? (i := 50) rfl)) rfl
theorem kl_X9_312 : Cond.constantLong RX9 312 (15) ∈ WSl := inG (in_t5 (List.mem_of_getElem? (i := 109) rfl)) rfl
theorem kl_X9_314 : Cond.constantLong RX9 314 (24) ∈ WSl := inG (in_t5 (List.mem_of_getElem? (i := 110) rfl)) rfl
theorem kl_X9_328 : Cond.constantLong RX9 328 (265) ∈ WSl := inG (in_t5 (List.mem_of_getElem? (i := 130) rfl)) rfl
theorem kl_X9_334 : Cond.constantLong RX9 334 (13) ∈ WSl := inG (in_t5 (List.mem_of_getElem? (i := 144) rfl)) rfl
theorem kl_X9_336 : Cond.constantLong RX9 336 (20) ∈ WSl := inG (in_t5 (List.mem_of_getElem? (i := 145) rfl)) rfl
theorem kl_X9_338 : Cond.constantLong RX9 338 (23) ∈ WSl := inG (in_t5 (List.mem_of_getElem? (i := 146) rfl)) rfl
theorem cw_X0_take : CalV yX0_take RX0 cX0_take 4 none 3 := ⟨inG (in_t2 (List.mem_of_getElem? (i := 182) rfl)) rfl, inG (in_t2 (List.mem_of_getElem? (i := 183) rfl)) rfl, inG (in_t1 (List.mem_of_getElem? (i := 5) rfl)) rfl, inG (in_t2 (List.mem_of_getElem? (i := 184) rfl)) rfl, by decide +kernel⟩
theorem cw_X0_isMeant : CalV yX0_isMeant RX0 cX0_isMeant 2 (some .boolean) 1 := ⟨inG (in_t2 (List.mem_of_getElem? (i := 202) rfl)) rfl, inG (in_t2 (List.mem_of_getElem? (i := 203) rfl)) rfl, inG (in_t1 (List.mem_of_getElem? (i := 5) rfl)) rfl, inG (in_t2 (List.mem_of_getElem? (i := 204) rfl)) rfl, by decide +kernel⟩
theorem cw_X0_isBroken : CalV yX0_isBroken RX0 cX0_isBroken 3 (some .boolean) 2 := ⟨inG (in_t2 (List.mem_of_getElem? (i := 206) rfl)) rfl, inG (in_t2 (List.mem_of_getElem? (i := 207) rfl)) rfl, inG (in_t1 (List.mem_of_getElem? (i := 5) rfl)) rfl, inG (in_t2 (List.mem_of_getElem? (i := 208) rfl)) rfl, by decide +kernel⟩
theorem cw_X1_shapeOf : CalV yX1_shapeOf RX1 cX1_shapeOf 7 (some .int) 2 := ⟨inG (in_t3 (List.mem_of_getElem? (i := 30) rfl)) rfl, inG (in_t3 (List.mem_of_getElem? (i := 31) rfl)) rfl, inG (in_t1 (List.mem_of_getElem? (i := 2) rfl)) rfl, inG (in_t3 (List.mem_of_getElem? (i := 32) rfl)) rfl, by decide +kernel⟩
theorem cw_X1_deniedBy : CalV yX1_deniedBy RX1 cX1_deniedBy 10 (some .int) 2 := ⟨inG (in_t3 (List.mem_of_getElem? (i := 77) rfl)) rfl, inG (in_t3 (List.mem_of_getElem? (i := 78) rfl)) rfl, inG (in_t1 (List.mem_of_getElem? (i := 2) rfl)) rfl, inG (in_t3 (List.mem_of_getElem? (i := 79) rfl)) rfl, by decide +kernel⟩
theorem cw_X2_reach : CalV yX2_reach RX2 cX2_reach 9 none 3 := ⟨inG (in_t3 (List.mem_of_getElem? (i := 171) rfl)) rfl, inG (in_t3 (List.mem_of_getElem? (i := 172) rfl)) rfl, inG (in_t1 (List.mem_of_getElem? (i := 10) rfl)) rfl, inG (in_t3 (List.mem_of_getElem? (i := 173) rfl)) rfl, by decide +kernel⟩
theorem cw_X2_add : CalV yX2_add RX2 cX2_add 5 none 3 := ⟨inG (in_t3 (List.mem_of_getElem? (i := 180) rfl)) rfl, inG (in_s2 (y := yX2_add) (n := 4) (List.mem_of_getElem? (i := 1) rfl)) rfl, inG (in_t1 (List.mem_of_getElem? (i := 10) rfl)) rfl, inG (in_t3 (List.mem_of_getElem? (i := 181) rfl)) rfl, by decide +kernel⟩
theorem cw_X2_isSeen : CalV yX2_isSeen RX2 cX2_isSeen 2 (some .boolean) 1 := ⟨inG (in_t3 (List.mem_of_getElem? (i := 184) rfl)) rfl, inG (in_s2 (y := yX2_isSeen) (n := 4) (List.mem_of_getElem? (i := 2) rfl)) rfl, inG (in_t1 (List.mem_of_getElem? (i := 10) rfl)) rfl, inG (in_t3 (List.mem_of_getElem? (i := 185) rfl)) rfl, by decide +kernel⟩
theorem cw_X2_isEnd : CalV yX2_isEnd RX2 cX2_isEnd 2 (some .boolean) 1 := ⟨inG (in_t3 (List.mem_of_getElem? (i := 192) rfl)) rfl, inG (in_t3 (List.mem_of_getElem? (i := 193) rfl)) rfl, inG (in_t1 (List.mem_of_getElem? (i := 10) rfl)) rfl, inG (in_t3 (List.mem_of_getElem? (i := 194) rfl)) rfl, by decide +kernel⟩
theorem cw_X2_countEnds : CalV yX2_countEnds RX2 cX2_countEnds 3 (some .int) 0 := ⟨inG (in_t3 (List.mem_of_getElem? (i := 188) rfl)) rfl, inG (in_t3 (List.mem_of_getElem? (i := 189) rfl)) rfl, inG (in_t1 (List.mem_of_getElem? (i := 10) rfl)) rfl, inG (in_t3 (List.mem_of_getElem? (i := 190) rfl)) rfl, by decide +kernel⟩
theorem cw_X2_leastEnd : CalV yX2_leastEnd RX2 cX2_leastEnd 2 (some .int) 0 := ⟨inG (in_t3 (List.mem_of_getElem? (i := 197) rfl)) rfl, inG (in_t3 (List.mem_of_getElem? (i := 198) rfl)) rfl, inG (in_t1 (List.mem_of_getElem? (i := 10) rfl)) rfl, inG (in_t3 (List.mem_of_getElem? (i := 199) rfl)) rfl, by decide +kernel⟩
theorem cw_X3_judge : CalV yX3_judge RX3 cX3_judge 6 none 3 := ⟨inG (in_t2 (List.mem_of_getElem? (i := 217) rfl)) rfl, inG (in_t2 (List.mem_of_getElem? (i := 218) rfl)) rfl, inG (in_t1 (List.mem_of_getElem? (i := 6) rfl)) rfl, inG (in_t2 (List.mem_of_getElem? (i := 219) rfl)) rfl, by decide +kernel⟩
theorem cw_X3_judgeStart : CalV yX3_judgeStart RX3 cX3_judgeStart 4 none 2 := ⟨inG (in_t2 (List.mem_of_getElem? (i := 228) rfl)) rfl, inG (in_s1 (y := yX3_judgeStart) (n := 6) (List.mem_of_getElem? (i := 4) rfl)) rfl, inG (in_t1 (List.mem_of_getElem? (i := 6) rfl)) rfl, inG (in_t2 (List.mem_of_getElem? (i := 229) rfl)) rfl, by decide +kernel⟩
theorem cw_X4_put : CalV yX4_put RX4 cX4_put 6 none 5 := ⟨inG (in_t2 (List.mem_of_getElem? (i := 77) rfl)) rfl, inG (in_t2 (List.mem_of_getElem? (i := 78) rfl)) rfl, inG (in_t1 (List.mem_of_getElem? (i := 3) rfl)) rfl, inG (in_t2 (List.mem_of_getElem? (i := 79) rfl)) rfl, by decide +kernel⟩
theorem cw_X4_hush : CalV yX4_hush RX4 cX4_hush 2 none 1 := ⟨inG (in_t2 (List.mem_of_getElem? (i := 93) rfl)) rfl, inG (in_t2 (List.mem_of_getElem? (i := 94) rfl)) rfl, inG (in_t1 (List.mem_of_getElem? (i := 3) rfl)) rfl, inG (in_t2 (List.mem_of_getElem? (i := 95) rfl)) rfl, by decide +kernel⟩
theorem cw_X4_stateAt : CalV yX4_stateAt RX4 cX4_stateAt 3 (some .int) 2 := ⟨inG (in_t2 (List.mem_of_getElem? (i := 113) rfl)) rfl, inG (in_s1 (y := yX4_stateAt) (n := 16) (List.mem_of_getElem? (i := 1) rfl)) rfl, inG (in_t1 (List.mem_of_getElem? (i := 3) rfl)) rfl, inG (in_t2 (List.mem_of_getElem? (i := 114) rfl)) rfl, by decide +kernel⟩
theorem cw_X4_stepped : CalV yX4_stepped RX4 cX4_stepped 6 (some .int) 2 := ⟨inG (in_t2 (List.mem_of_getElem? (i := 116) rfl)) rfl, inG (in_t2 (List.mem_of_getElem? (i := 117) rfl)) rfl, inG (in_t1 (List.mem_of_getElem? (i := 3) rfl)) rfl, inG (in_t2 (List.mem_of_getElem? (i := 118) rfl)) rfl, by decide +kernel⟩
theorem cw_X4_steppedState : CalV yX4_steppedState RX4 cX4_steppedState 3 (some .int) 2 := ⟨inG (in_t3 (List.mem_of_getElem? (i := 69) rfl)) rfl, inG (in_t3 (List.mem_of_getElem? (i := 70) rfl)) rfl, inG (in_t1 (List.mem_of_getElem? (i := 3) rfl)) rfl, inG (in_t3 (List.mem_of_getElem? (i := 71) rfl)) rfl, by decide +kernel⟩
theorem cw_X4_traceAll : CalV yX4_traceAll RX4 cX4_traceAll 2 none 0 := ⟨inG (in_t2 (List.mem_of_getElem? (i := 221) rfl)) rfl, inG (in_t2 (List.mem_of_getElem? (i := 222) rfl)) rfl, inG (in_t1 (List.mem_of_getElem? (i := 3) rfl)) rfl, inG (in_t2 (List.mem_of_getElem? (i := 223) rfl)) rfl, by decide +kernel⟩
theorem cw_X4_trace : CalV yX4_trace RX4 cX4_trace 11 none 1 := ⟨inG (in_t2 (List.mem_of_getElem? (i := 108) rfl)) rfl, inG (in_t2 (List.mem_of_getElem? (i := 109) rfl)) rfl, inG (in_t1 (List.mem_of_getElem? (i := 3) rfl)) rfl, inG (in_t2 (List.mem_of_getElem? (i := 110) rfl)) rfl, by decide +kernel⟩
theorem cw_X4_shownUnder : CalV yX4_shownUnder RX4 cX4_shownUnder 9 (some .long) 2 := ⟨inG (in_t2 (List.mem_of_getElem? (i := 124) rfl)) rfl, inG (in_t2 (List.mem_of_getElem? (i := 125) rfl)) rfl, inG (in_t1 (List.mem_of_getElem? (i := 3) rfl)) rfl, inG (in_t2 (List.mem_of_getElem? (i := 126) rfl)) rfl, by decide +kernel⟩
theorem cw_X4_countShown : CalS yX4_countShown cX4_countShown 3 (some .int) 1 := ⟨inG (in_t2 (List.mem_of_getElem? (i := 128) rfl)) rfl, inG (in_t1 (List.mem_of_getElem? (i := 3) rfl)) rfl, inG (in_t2 (List.mem_of_getElem? (i := 129) rfl)) rfl, by decide +kernel⟩
theorem cw_X4_shownAt : CalV yX4_shownAt RX4 cX4_shownAt 4 (some .int) 2 := ⟨inG (in_t2 (List.mem_of_getElem? (i := 131) rfl)) rfl, inG (in_t2 (List.mem_of_getElem? (i := 132) rfl)) rfl, inG (in_t1 (List.mem_of_getElem? (i := 3) rfl)) rfl, inG (in_t2 (List.mem_of_getElem? (i := 133) rfl)) rfl, by decide +kernel⟩
theorem cw_X4_beginAlike : CalV yX4_beginAlike RX4 cX4_beginAlike 8 (some .boolean) 3 := ⟨inG (in_t3 (List.mem_of_getElem? (i := 138) rfl)) rfl, inG (in_t3 (List.mem_of_getElem? (i := 139) rfl)) rfl, inG (in_t1 (List.mem_of_getElem? (i := 3) rfl)) rfl, inG (in_t3 (List.mem_of_getElem? (i := 140) rfl)) rfl, by decide +kernel⟩
theorem cw_X4_lineAhead : CalV yX4_lineAhead RX4 cX4_lineAhead 4 (some .int) 2 := ⟨inG (in_t2 (List.mem_of_getElem? (i := 237) rfl)) rfl, inG (in_t2 (List.mem_of_getElem? (i := 238) rfl)) rfl, inG (in_t1 (List.mem_of_getElem? (i := 3) rfl)) rfl, inG (in_t2 (List.mem_of_getElem? (i := 239) rfl)) rfl, by decide +kernel⟩
theorem cw_X4_loudLines : CalV yX4_loudLines RX4 cX4_loudLines 3 (some .int) 0 := ⟨inG (in_t3 (List.mem_of_getElem? (i := 89) rfl)) rfl, inG (in_t3 (List.mem_of_getElem? (i := 90) rfl)) rfl, inG (in_t1 (List.mem_of_getElem? (i := 3) rfl)) rfl, inG (in_t3 (List.mem_of_getElem? (i := 91) rfl)) rfl, by decide +kernel⟩
theorem cw_X4_unlikeLines : CalV yX4_unlikeLines RX4 cX4_unlikeLines 6 (some .int) 1 := ⟨inG (in_t3 (List.mem_of_getElem? (i := 158) rfl)) rfl, inG (in_t3 (List.mem_of_getElem? (i := 159) rfl)) rfl, inG (in_t1 (List.mem_of_getElem? (i := 3) rfl)) rfl, inG (in_t3 (List.mem_of_getElem? (i := 160) rfl)) rfl, by decide +kernel⟩
theorem cw_X4_isSameLine : CalV yX4_isSameLine RX4 cX4_isSameLine 3 (some .boolean) 2 := ⟨inG (in_t3 (List.mem_of_getElem? (i := 163) rfl)) rfl, inG (in_s2 (y := yX4_isSameLine) (n := 16) (List.mem_of_getElem? (i := 0) rfl)) rfl, inG (in_t1 (List.mem_of_getElem? (i := 3) rfl)) rfl, inG (in_t3 (List.mem_of_getElem? (i := 164) rfl)) rfl, by decide +kernel⟩
theorem cw_X5_firstFault : CalV yX5_firstFault RX5 cX5_firstFault 4 (some .int) 0 := ⟨inG (in_t2 (List.mem_of_getElem? (i := 147) rfl)) rfl, inG (in_t2 (List.mem_of_getElem? (i := 148) rfl)) rfl, inG (in_t1 (List.mem_of_getElem? (i := 4) rfl)) rfl, inG (in_t2 (List.mem_of_getElem? (i := 149) rfl)) rfl, by decide +kernel⟩
theorem cw_X5_dueBehind : CalS yX5_dueBehind cX5_dueBehind 3 (some .int) 3 := ⟨inG (in_t2 (List.mem_of_getElem? (i := 151) rfl)) rfl, inG (in_t1 (List.mem_of_getElem? (i := 4) rfl)) rfl, inG (in_t2 (List.mem_of_getElem? (i := 152) rfl)) rfl, by decide +kernel⟩
theorem cw_X5_isLetter : CalS yX5_isLetter cX5_isLetter 1 (some .boolean) 1 := ⟨inG (in_t2 (List.mem_of_getElem? (i := 154) rfl)) rfl, inG (in_t1 (List.mem_of_getElem? (i := 4) rfl)) rfl, inG (in_t2 (List.mem_of_getElem? (i := 155) rfl)) rfl, by decide +kernel⟩
theorem cw_X5_alikePart : CalS yX5_alikePart cX5_alikePart 1 (some .long) 1 := ⟨inG (in_t2 (List.mem_of_getElem? (i := 157) rfl)) rfl, inG (in_t1 (List.mem_of_getElem? (i := 4) rfl)) rfl, inG (in_t2 (List.mem_of_getElem? (i := 158) rfl)) rfl, by decide +kernel⟩
theorem cw_X5_take : CalV yX5_take RX5 cX5_take 3 none 1 := ⟨inG (in_t2 (List.mem_of_getElem? (i := 167) rfl)) rfl, inG (in_t2 (List.mem_of_getElem? (i := 168) rfl)) rfl, inG (in_t1 (List.mem_of_getElem? (i := 4) rfl)) rfl, inG (in_t2 (List.mem_of_getElem? (i := 169) rfl)) rfl, by decide +kernel⟩
theorem cw_X5_deniedAhead : CalV yX5_deniedAhead RX5 cX5_deniedAhead 2 (some .int) 1 := ⟨inG (in_t2 (List.mem_of_getElem? (i := 186) rfl)) rfl, inG (in_t2 (List.mem_of_getElem? (i := 187) rfl)) rfl, inG (in_t1 (List.mem_of_getElem? (i := 4) rfl)) rfl, inG (in_t2 (List.mem_of_getElem? (i := 188) rfl)) rfl, by decide +kernel⟩
theorem cw_X5_deniedBehind : CalV yX5_deniedBehind RX5 cX5_deniedBehind 2 (some .int) 1 := ⟨inG (in_t2 (List.mem_of_getElem? (i := 198) rfl)) rfl, inG (in_t2 (List.mem_of_getElem? (i := 199) rfl)) rfl, inG (in_t1 (List.mem_of_getElem? (i := 4) rfl)) rfl, inG (in_t2 (List.mem_of_getElem? (i := 200) rfl)) rfl, by decide +kernel⟩
theorem cw_X5_deniedFrom : CalV yX5_deniedFrom RX5 cX5_deniedFrom 7 (some .int) 3 := ⟨inG (in_t2 (List.mem_of_getElem? (i := 191) rfl)) rfl, inG (in_s1 (y := yX5_deniedFrom) (n := 4) (List.mem_of_getElem? (i := 3) rfl)) rfl, inG (in_t1 (List.mem_of_getElem? (i := 4) rfl)) rfl, inG (in_t2 (List.mem_of_getElem? (i := 192) rfl)) rfl, by decide +kernel⟩
theorem cw_X5_deniedBy : CalS yX5_deniedBy cX5_deniedBy 4 (some .int) 2 := ⟨inG (in_t2 (List.mem_of_getElem? (i := 195) rfl)) rfl, inG (in_t1 (List.mem_of_getElem? (i := 4) rfl)) rfl, inG (in_t2 (List.mem_of_getElem? (i := 196) rfl)) rfl, by decide +kernel⟩
theorem cw_X6_fewest : CalV yX6_fewest RX6 cX6_fewest 9 (some .int) 2 := ⟨inG (in_t3 (List.mem_of_getElem? (i := 99) rfl)) rfl, inG (in_t3 (List.mem_of_getElem? (i := 100) rfl)) rfl, inG (in_t1 (List.mem_of_getElem? (i := 7) rfl)) rfl, inG (in_t3 (List.mem_of_getElem? (i := 101) rfl)) rfl, by decide +kernel⟩
theorem cw_X6_joinAll : CalV yX6_joinAll RX6 cX6_joinAll 4 (some .boolean) 2 := ⟨inG (in_t3 (List.mem_of_getElem? (i := 107) rfl)) rfl, inG (in_s1 (y := yX6_joinAll) (n := 3) (List.mem_of_getElem? (i := 12) rfl)) rfl, inG (in_t1 (List.mem_of_getElem? (i := 7) rfl)) rfl, inG (in_t3 (List.mem_of_getElem? (i := 108) rfl)) rfl, by decide +kernel⟩
theorem cw_X6_joinStart : CalV yX6_joinStart RX6 cX6_joinStart 4 (some .boolean) 2 := ⟨inG (in_t3 (List.mem_of_getElem? (i := 113) rfl)) rfl, inG (in_s1 (y := yX6_joinStart) (n := 3) (List.mem_of_getElem? (i := 13) rfl)) rfl, inG (in_t1 (List.mem_of_getElem? (i := 7) rfl)) rfl, inG (in_t3 (List.mem_of_getElem? (i := 114) rfl)) rfl, by decide +kernel⟩
theorem cw_X6_join : CalV yX6_join RX6 cX6_join 6 none 2 := ⟨inG (in_t3 (List.mem_of_getElem? (i := 119) rfl)) rfl, inG (in_s1 (y := yX6_join) (n := 3) (List.mem_of_getElem? (i := 14) rfl)) rfl, inG (in_t1 (List.mem_of_getElem? (i := 7) rfl)) rfl, inG (in_t3 (List.mem_of_getElem? (i := 120) rfl)) rfl, by decide +kernel⟩
theorem cw_X6_isAlike : CalV yX6_isAlike RX6 cX6_isAlike 4 (some .boolean) 2 := ⟨inG (in_t3 (List.mem_of_getElem? (i := 126) rfl)) rfl, inG (in_s1 (y := yX6_isAlike) (n := 3) (List.mem_of_getElem? (i := 15) rfl)) rfl, inG (in_t1 (List.mem_of_getElem? (i := 7) rfl)) rfl, inG (in_t3 (List.mem_of_getElem? (i := 127) rfl)) rfl, by decide +kernel⟩
theorem cw_X7_walkAll : CalV yX7_walkAll RX7 cX7_walkAll 7 none 3 := ⟨inG (in_t3 (List.mem_of_getElem? (i := 16) rfl)) rfl, inG (in_t3 (List.mem_of_getElem? (i := 17) rfl)) rfl, inG (in_t1 (List.mem_of_getElem? (i := 8) rfl)) rfl, inG (in_t3 (List.mem_of_getElem? (i := 18) rfl)) rfl, by decide +kernel⟩
theorem cw_X7_walkPair : CalV yX7_walkPair RX7 cX7_walkPair 9 (some .int) 4 := ⟨inG (in_t3 (List.mem_of_getElem? (i := 23) rfl)) rfl, inG (in_s1 (y := yX7_walkPair) (n := 11) (List.mem_of_getElem? (i := 6) rfl)) rfl, inG (in_t1 (List.mem_of_getElem? (i := 8) rfl)) rfl, inG (in_t3 (List.mem_of_getElem? (i := 24) rfl)) rfl, by decide +kernel⟩
theorem cw_X7_standAt : CalV yX7_standAt RX7 cX7_standAt 4 (some .int) 2 := ⟨inG (in_t3 (List.mem_of_getElem? (i := 27) rfl)) rfl, inG (in_s1 (y := yX7_standAt) (n := 11) (List.mem_of_getElem? (i := 7) rfl)) rfl, inG (in_t1 (List.mem_of_getElem? (i := 8) rfl)) rfl, inG (in_t3 (List.mem_of_getElem? (i := 28) rfl)) rfl, by decide +kernel⟩
theorem cw_X7_countPlaces : CalV yX7_countPlaces RX7 cX7_countPlaces 3 (some .int) 0 := ⟨inG (in_t3 (List.mem_of_getElem? (i := 37) rfl)) rfl, inG (in_t3 (List.mem_of_getElem? (i := 38) rfl)) rfl, inG (in_t1 (List.mem_of_getElem? (i := 8) rfl)) rfl, inG (in_t3 (List.mem_of_getElem? (i := 39) rfl)) rfl, by decide +kernel⟩
theorem cw_X7_countUnlike : CalV yX7_countUnlike RX7 cX7_countUnlike 3 (some .int) 0 := ⟨inG (in_t3 (List.mem_of_getElem? (i := 41) rfl)) rfl, inG (in_t3 (List.mem_of_getElem? (i := 42) rfl)) rfl, inG (in_t1 (List.mem_of_getElem? (i := 8) rfl)) rfl, inG (in_t3 (List.mem_of_getElem? (i := 43) rfl)) rfl, by decide +kernel⟩
theorem cw_X7_firstFailing : CalV yX7_firstFailing RX7 cX7_firstFailing 4 (some .int) 2 := ⟨inG (in_t3 (List.mem_of_getElem? (i := 57) rfl)) rfl, inG (in_t3 (List.mem_of_getElem? (i := 58) rfl)) rfl, inG (in_t1 (List.mem_of_getElem? (i := 8) rfl)) rfl, inG (in_t3 (List.mem_of_getElem? (i := 59) rfl)) rfl, by decide +kernel⟩
theorem cw_X7_isKept : CalV yX7_isKept RX7 cX7_isKept 6 (some .boolean) 3 := ⟨inG (in_t3 (List.mem_of_getElem? (i := 62) rfl)) rfl, inG (in_s1 (y := yX7_isKept) (n := 11) (List.mem_of_getElem? (i := 8) rfl)) rfl, inG (in_t1 (List.mem_of_getElem? (i := 8) rfl)) rfl, inG (in_t3 (List.mem_of_getElem? (i := 63) rfl)) rfl, by decide +kernel⟩
theorem cw_X7_moveAll : CalV yX7_moveAll RX7 cX7_moveAll 8 none 3 := ⟨inG (in_t3 (List.mem_of_getElem? (i := 66) rfl)) rfl, inG (in_s1 (y := yX7_moveAll) (n := 11) (List.mem_of_getElem? (i := 9) rfl)) rfl, inG (in_t1 (List.mem_of_getElem? (i := 8) rfl)) rfl, inG (in_t3 (List.mem_of_getElem? (i := 67) rfl)) rfl, by decide +kernel⟩
theorem cw_X7_askNext : CalV yX7_askNext RX7 cX7_askNext 5 (some .boolean) 1 := ⟨inG (in_t3 (List.mem_of_getElem? (i := 74) rfl)) rfl, inG (in_s1 (y := yX7_askNext) (n := 11) (List.mem_of_getElem? (i := 10) rfl)) rfl, inG (in_t1 (List.mem_of_getElem? (i := 8) rfl)) rfl, inG (in_t3 (List.mem_of_getElem? (i := 75) rfl)) rfl, by decide +kernel⟩
theorem cw_X7_areKept : CalV yX7_areKept RX7 cX7_areKept 5 (some .boolean) 1 := ⟨inG (in_t3 (List.mem_of_getElem? (i := 82) rfl)) rfl, inG (in_s1 (y := yX7_areKept) (n := 11) (List.mem_of_getElem? (i := 11) rfl)) rfl, inG (in_t1 (List.mem_of_getElem? (i := 8) rfl)) rfl, inG (in_t3 (List.mem_of_getElem? (i := 83) rfl)) rfl, by decide +kernel⟩
theorem cw_X8_line : CalV yX8_line RX8 cX8_line 8 (some .int) 5 := ⟨inG (in_t2 (List.mem_of_getElem? (i := 64) rfl)) rfl, inG (in_t2 (List.mem_of_getElem? (i := 65) rfl)) rfl, inG (in_t1 (List.mem_of_getElem? (i := 1) rfl)) rfl, inG (in_t2 (List.mem_of_getElem? (i := 66) rfl)) rfl, by decide +kernel⟩
theorem cw_X8_change : CalV yX8_change RX8 cX8_change 9 (some .int) 6 := ⟨inG (in_t2 (List.mem_of_getElem? (i := 85) rfl)) rfl, inG (in_t2 (List.mem_of_getElem? (i := 86) rfl)) rfl, inG (in_t1 (List.mem_of_getElem? (i := 1) rfl)) rfl, inG (in_t2 (List.mem_of_getElem? (i := 87) rfl)) rfl, by decide +kernel⟩
theorem cw_X8_clear : CalV yX8_clear RX8 cX8_clear 4 (some .int) 1 := ⟨inG (in_t2 (List.mem_of_getElem? (i := 89) rfl)) rfl, inG (in_t2 (List.mem_of_getElem? (i := 90) rfl)) rfl, inG (in_t1 (List.mem_of_getElem? (i := 1) rfl)) rfl, inG (in_t2 (List.mem_of_getElem? (i := 91) rfl)) rfl, by decide +kernel⟩
theorem cw_X8_silent : CalV yX8_silent RX8 cX8_silent 5 (some .int) 2 := ⟨inG (in_t2 (List.mem_of_getElem? (i := 97) rfl)) rfl, inG (in_t2 (List.mem_of_getElem? (i := 98) rfl)) rfl, inG (in_t1 (List.mem_of_getElem? (i := 1) rfl)) rfl, inG (in_t2 (List.mem_of_getElem? (i := 99) rfl)) rfl, by decide +kernel⟩
theorem cw_X8_run : CalV yX8_run RX8 cX8_run 6 (some .int) 3 := ⟨inG (in_t2 (List.mem_of_getElem? (i := 101) rfl)) rfl, inG (in_t2 (List.mem_of_getElem? (i := 102) rfl)) rfl, inG (in_t1 (List.mem_of_getElem? (i := 1) rfl)) rfl, inG (in_t2 (List.mem_of_getElem? (i := 103) rfl)) rfl, by decide +kernel⟩
theorem cw_X8_say : CalV yX8_say RX8 cX8_say 2 (some .int) 1 := ⟨inG (in_t2 (List.mem_of_getElem? (i := 135) rfl)) rfl, inG (in_t2 (List.mem_of_getElem? (i := 136) rfl)) rfl, inG (in_t1 (List.mem_of_getElem? (i := 1) rfl)) rfl, inG (in_t2 (List.mem_of_getElem? (i := 137) rfl)) rfl, by decide +kernel⟩
theorem cw_X8_wipe : CalV yX8_wipe RX8 cX8_wipe 2 (some .int) 0 := ⟨inG (in_t2 (List.mem_of_getElem? (i := 139) rfl)) rfl, inG (in_t2 (List.mem_of_getElem? (i := 140) rfl)) rfl, inG (in_t1 (List.mem_of_getElem? (i := 1) rfl)) rfl, inG (in_t2 (List.mem_of_getElem? (i := 141) rfl)) rfl, by decide +kernel⟩
theorem cw_X8_fault : CalV yX8_fault RX8 cX8_fault 1 (some .int) 0 := ⟨inG (in_t2 (List.mem_of_getElem? (i := 143) rfl)) rfl, inG (in_t2 (List.mem_of_getElem? (i := 144) rfl)) rfl, inG (in_t1 (List.mem_of_getElem? (i := 1) rfl)) rfl, inG (in_t2 (List.mem_of_getElem? (i := 145) rfl)) rfl, by decide +kernel⟩
theorem cw_X8_saying : CalV yX8_saying RX8 cX8_saying 1 (some .int) 0 := ⟨inG (in_t2 (List.mem_of_getElem? (i := 163) rfl)) rfl, inG (in_t2 (List.mem_of_getElem? (i := 164) rfl)) rfl, inG (in_t1 (List.mem_of_getElem? (i := 1) rfl)) rfl, inG (in_t2 (List.mem_of_getElem? (i := 165) rfl)) rfl, by decide +kernel⟩
theorem cw_X8_pair : CalV yX8_pair RX8 cX8_pair 8 (some .int) 6 := ⟨inG (in_t2 (List.mem_of_getElem? (i := 174) rfl)) rfl, inG (in_t2 (List.mem_of_getElem? (i := 175) rfl)) rfl, inG (in_t1 (List.mem_of_getElem? (i := 1) rfl)) rfl, inG (in_t2 (List.mem_of_getElem? (i := 176) rfl)) rfl, by decide +kernel⟩
theorem cw_X8_holds : CalV yX8_holds RX8 cX8_holds 6 (some .int) 4 := ⟨inG (in_t2 (List.mem_of_getElem? (i := 210) rfl)) rfl, inG (in_t2 (List.mem_of_getElem? (i := 211) rfl)) rfl, inG (in_t1 (List.mem_of_getElem? (i := 1) rfl)) rfl, inG (in_t2 (List.mem_of_getElem? (i := 212) rfl)) rfl, by decide +kernel⟩
theorem cw_X8_part : CalV yX8_part RX8 cX8_part 8 (some .int) 4 := ⟨inG (in_t2 (List.mem_of_getElem? (i := 233) rfl)) rfl, inG (in_t2 (List.mem_of_getElem? (i := 234) rfl)) rfl, inG (in_t1 (List.mem_of_getElem? (i := 1) rfl)) rfl, inG (in_t2 (List.mem_of_getElem? (i := 235) rfl)) rfl, by decide +kernel⟩
theorem cw_X8_wait : CalV yX8_wait RX8 cX8_wait 6 (some .int) 3 := ⟨inG (in_t3 (List.mem_of_getElem? (i := 4) rfl)) rfl, inG (in_t3 (List.mem_of_getElem? (i := 5) rfl)) rfl, inG (in_t1 (List.mem_of_getElem? (i := 1) rfl)) rfl, inG (in_t3 (List.mem_of_getElem? (i := 6) rfl)) rfl, by decide +kernel⟩
theorem cw_X8_walk : CalV yX8_walk RX8 cX8_walk 5 (some .int) 4 := ⟨inG (in_t3 (List.mem_of_getElem? (i := 8) rfl)) rfl, inG (in_t3 (List.mem_of_getElem? (i := 9) rfl)) rfl, inG (in_t1 (List.mem_of_getElem? (i := 1) rfl)) rfl, inG (in_t3 (List.mem_of_getElem? (i := 10) rfl)) rfl, by decide +kernel⟩
theorem cw_X8_shape : CalV yX8_shape RX8 cX8_shape 6 (some .int) 5 := ⟨inG (in_t3 (List.mem_of_getElem? (i := 45) rfl)) rfl, inG (in_t3 (List.mem_of_getElem? (i := 46) rfl)) rfl, inG (in_t1 (List.mem_of_getElem? (i := 1) rfl)) rfl, inG (in_t3 (List.mem_of_getElem? (i := 47) rfl)) rfl, by decide +kernel⟩
theorem cw_X8_tell : CalV yX8_tell RX8 cX8_tell 6 (some .int) 3 := ⟨inG (in_t3 (List.mem_of_getElem? (i := 49) rfl)) rfl, inG (in_t3 (List.mem_of_getElem? (i := 50) rfl)) rfl, inG (in_t1 (List.mem_of_getElem? (i := 1) rfl)) rfl, inG (in_t3 (List.mem_of_getElem? (i := 51) rfl)) rfl, by decide +kernel⟩
theorem cw_X8_fails : CalV yX8_fails RX8 cX8_fails 4 (some .int) 3 := ⟨inG (in_t3 (List.mem_of_getElem? (i := 53) rfl)) rfl, inG (in_t3 (List.mem_of_getElem? (i := 54) rfl)) rfl, inG (in_t1 (List.mem_of_getElem? (i := 1) rfl)) rfl, inG (in_t3 (List.mem_of_getElem? (i := 55) rfl)) rfl, by decide +kernel⟩
theorem cw_X8_so : CalV yX8_so RX8 cX8_so 6 (some .int) 3 := ⟨inG (in_t3 (List.mem_of_getElem? (i := 85) rfl)) rfl, inG (in_t3 (List.mem_of_getElem? (i := 86) rfl)) rfl, inG (in_t1 (List.mem_of_getElem? (i := 1) rfl)) rfl, inG (in_t3 (List.mem_of_getElem? (i := 87) rfl)) rfl, by decide +kernel⟩
theorem cw_X8_fit : CalV yX8_fit RX8 cX8_fit 11 (some .int) 5 := ⟨inG (in_t3 (List.mem_of_getElem? (i := 130) rfl)) rfl, inG (in_t3 (List.mem_of_getElem? (i := 131) rfl)) rfl, inG (in_t1 (List.mem_of_getElem? (i := 1) rfl)) rfl, inG (in_t3 (List.mem_of_getElem? (i := 132) rfl)) rfl, by decide +kernel⟩
theorem cw_X8_far : CalV yX8_far RX8 cX8_far 14 (some .int) 4 := ⟨inG (in_t3 (List.mem_of_getElem? (i := 143) rfl)) rfl, inG (in_t3 (List.mem_of_getElem? (i := 144) rfl)) rfl, inG (in_t1 (List.mem_of_getElem? (i := 1) rfl)) rfl, inG (in_t3 (List.mem_of_getElem? (i := 145) rfl)) rfl, by decide +kernel⟩
theorem cw_X8_changed : CalV yX8_changed RX8 cX8_changed 11 (some .int) 3 := ⟨inG (in_t3 (List.mem_of_getElem? (i := 154) rfl)) rfl, inG (in_t3 (List.mem_of_getElem? (i := 155) rfl)) rfl, inG (in_t1 (List.mem_of_getElem? (i := 1) rfl)) rfl, inG (in_t3 (List.mem_of_getElem? (i := 156) rfl)) rfl, by decide +kernel⟩
theorem cw_X8_orders : CalV yX8_orders RX8 cX8_orders 7 (some .int) 4 := ⟨inG (in_t3 (List.mem_of_getElem? (i := 167) rfl)) rfl, inG (in_t3 (List.mem_of_getElem? (i := 168) rfl)) rfl, inG (in_t1 (List.mem_of_getElem? (i := 1) rfl)) rfl, inG (in_t3 (List.mem_of_getElem? (i := 169) rfl)) rfl, by decide +kernel⟩
theorem cw_X8_told : CalV yX8_told RX8 cX8_told 2 (some .int) 1 := ⟨inG (in_t3 (List.mem_of_getElem? (i := 202) rfl)) rfl, inG (in_t3 (List.mem_of_getElem? (i := 203) rfl)) rfl, inG (in_t1 (List.mem_of_getElem? (i := 1) rfl)) rfl, inG (in_t3 (List.mem_of_getElem? (i := 204) rfl)) rfl, by decide +kernel⟩
theorem cw_X8_isWithin : CalS yX8_isWithin cX8_isWithin 2 (some .boolean) 2 := ⟨inG (in_t2 (List.mem_of_getElem? (i := 71) rfl)) rfl, inG (in_t1 (List.mem_of_getElem? (i := 1) rfl)) rfl, inG (in_t2 (List.mem_of_getElem? (i := 72) rfl)) rfl, by decide +kernel⟩
theorem cw_X8_isProgram : CalS yX8_isProgram cX8_isProgram 1 (some .boolean) 1 := ⟨inG (in_t2 (List.mem_of_getElem? (i := 68) rfl)) rfl, inG (in_t1 (List.mem_of_getElem? (i := 1) rfl)) rfl, inG (in_t2 (List.mem_of_getElem? (i := 69) rfl)) rfl, by decide +kernel⟩
theorem cw_X8_isMemory : CalS yX8_isMemory cX8_isMemory 1 (some .boolean) 1 := ⟨inG (in_t2 (List.mem_of_getElem? (i := 105) rfl)) rfl, inG (in_t1 (List.mem_of_getElem? (i := 1) rfl)) rfl, inG (in_t2 (List.mem_of_getElem? (i := 106) rfl)) rfl, by decide +kernel⟩
theorem cw_X8_isSaying : CalV yX8_isSaying RX8 cX8_isSaying 2 (some .boolean) 1 := ⟨inG (in_t2 (List.mem_of_getElem? (i := 179) rfl)) rfl, inG (in_s1 (y := yX8_isSaying) (n := 9) (List.mem_of_getElem? (i := 2) rfl)) rfl, inG (in_t1 (List.mem_of_getElem? (i := 1) rfl)) rfl, inG (in_t2 (List.mem_of_getElem? (i := 180) rfl)) rfl, by decide +kernel⟩
theorem cw_X8_isAct : CalS yX8_isAct cX8_isAct 4 (some .boolean) 4 := ⟨inG (in_t2 (List.mem_of_getElem? (i := 74) rfl)) rfl, inG (in_t1 (List.mem_of_getElem? (i := 1) rfl)) rfl, inG (in_t2 (List.mem_of_getElem? (i := 75) rfl)) rfl, by decide +kernel⟩
theorem cw_X8_keyOf : CalS yX8_keyOf cX8_keyOf 3 (some .int) 3 := ⟨inG (in_t2 (List.mem_of_getElem? (i := 214) rfl)) rfl, inG (in_t1 (List.mem_of_getElem? (i := 1) rfl)) rfl, inG (in_t2 (List.mem_of_getElem? (i := 215) rfl)) rfl, by decide +kernel⟩
theorem cw_X8_forget : CalV yX8_forget RX8 cX8_forget 1 none 0 := ⟨inG (in_t2 (List.mem_of_getElem? (i := 82) rfl)) rfl, inG (in_s1 (y := yX8_forget) (n := 9) (List.mem_of_getElem? (i := 0) rfl)) rfl, inG (in_t1 (List.mem_of_getElem? (i := 1) rfl)) rfl, inG (in_t2 (List.mem_of_getElem? (i := 83) rfl)) rfl, by decide +kernel⟩
theorem cw_X8_makeWalk : CalV yX8_makeWalk RX8 cX8_makeWalk 5 none 3 := ⟨inG (in_t3 (List.mem_of_getElem? (i := 13) rfl)) rfl, inG (in_s1 (y := yX8_makeWalk) (n := 9) (List.mem_of_getElem? (i := 5) rfl)) rfl, inG (in_t1 (List.mem_of_getElem? (i := 1) rfl)) rfl, inG (in_t3 (List.mem_of_getElem? (i := 14) rfl)) rfl, by decide +kernel⟩
theorem cw_X8_valueOf : CalS yX8_valueOf cX8_valueOf 2 (some .int) 2 := ⟨inG (in_t1 (List.mem_of_getElem? (i := 30) rfl)) rfl, inG (in_t1 (List.mem_of_getElem? (i := 1) rfl)) rfl, inG (in_t1 (List.mem_of_getElem? (i := 31) rfl)) rfl, by decide +kernel⟩
theorem cw_X8_withValue : CalS yX8_withValue cX8_withValue 4 (some .int) 3 := ⟨inG (in_t2 (List.mem_of_getElem? (i := 121) rfl)) rfl, inG (in_t1 (List.mem_of_getElem? (i := 1) rfl)) rfl, inG (in_t2 (List.mem_of_getElem? (i := 122) rfl)) rfl, by decide +kernel⟩
theorem cw_X8_digitsOf : CalS yX8_digitsOf cX8_digitsOf 3 (some .int) 1 := ⟨inG (in_t3 (List.mem_of_getElem? (i := 134) rfl)) rfl, inG (in_t1 (List.mem_of_getElem? (i := 1) rfl)) rfl, inG (in_t3 (List.mem_of_getElem? (i := 135) rfl)) rfl, by decide +kernel⟩
theorem cw_X9_in : CalS yX9_in cX9_in 6 (some .boolean) 3 := ⟨inG (in_t4 (List.mem_of_getElem? (i := 131) rfl)) rfl, inG (in_t1 (List.mem_of_getElem? (i := 11) rfl)) rfl, inG (in_t4 (List.mem_of_getElem? (i := 132) rfl)) rfl, by decide +kernel⟩
theorem cw_X9_ones : CalS yX9_ones cX9_ones 3 (some .int) 1 := ⟨inG (in_t5 (List.mem_of_getElem? (i := 95) rfl)) rfl, inG (in_t1 (List.mem_of_getElem? (i := 11) rfl)) rfl, inG (in_t5 (List.mem_of_getElem? (i := 96) rfl)) rfl, by decide +kernel⟩
theorem cw_X9_isOther : CalV yX9_isOther RX9 cX9_isOther 2 none 1 := ⟨inG (in_t4 (List.mem_of_getElem? (i := 146) rfl)) rfl, inG (in_s2 (y := yX9_isOther) (n := 47) (List.mem_of_getElem? (i := 4) rfl)) rfl, inG (in_t1 (List.mem_of_getElem? (i := 11) rfl)) rfl, inG (in_t4 (List.mem_of_getElem? (i := 147) rfl)) rfl, by decide +kernel⟩
theorem cw_X9_isProgram : CalS yX9_isProgram cX9_isProgram 1 (some .boolean) 1 := ⟨inG (in_t4 (List.mem_of_getElem? (i := 127) rfl)) rfl, inG (in_t1 (List.mem_of_getElem? (i := 11) rfl)) rfl, inG (in_t4 (List.mem_of_getElem? (i := 128) rfl)) rfl, by decide +kernel⟩
theorem cw_X9_isVariable : CalS yX9_isVariable cX9_isVariable 1 (some .boolean) 1 := ⟨inG (in_t4 (List.mem_of_getElem? (i := 137) rfl)) rfl, inG (in_t1 (List.mem_of_getElem? (i := 11) rfl)) rfl, inG (in_t4 (List.mem_of_getElem? (i := 138) rfl)) rfl, by decide +kernel⟩
theorem cw_X9_isLine : CalS yX9_isLine cX9_isLine 4 (some .boolean) 4 := ⟨inG (in_t4 (List.mem_of_getElem? (i := 134) rfl)) rfl, inG (in_t1 (List.mem_of_getElem? (i := 11) rfl)) rfl, inG (in_t4 (List.mem_of_getElem? (i := 135) rfl)) rfl, by decide +kernel⟩
theorem cw_X9_lay : CalV yX9_lay RX9 cX9_lay 6 none 5 := ⟨inG (in_t4 (List.mem_of_getElem? (i := 142) rfl)) rfl, inG (in_s2 (y := yX9_lay) (n := 47) (List.mem_of_getElem? (i := 3) rfl)) rfl, inG (in_t1 (List.mem_of_getElem? (i := 11) rfl)) rfl, inG (in_t4 (List.mem_of_getElem? (i := 143) rfl)) rfl, by decide +kernel⟩
theorem cw_X9_line : CalV yX9_line RX9 cX9_line 6 (some .int) 5 := ⟨inG (in_t4 (List.mem_of_getElem? (i := 123) rfl)) rfl, inG (in_t4 (List.mem_of_getElem? (i := 124) rfl)) rfl, inG (in_t1 (List.mem_of_getElem? (i := 11) rfl)) rfl, inG (in_t4 (List.mem_of_getElem? (i := 125) rfl)) rfl, by decide +kernel⟩
theorem cw_X9_change : CalV yX9_change RX9 cX9_change 8 (some .int) 6 := ⟨inG (in_t4 (List.mem_of_getElem? (i := 149) rfl)) rfl, inG (in_t4 (List.mem_of_getElem? (i := 150) rfl)) rfl, inG (in_t1 (List.mem_of_getElem? (i := 11) rfl)) rfl, inG (in_t4 (List.mem_of_getElem? (i := 151) rfl)) rfl, by decide +kernel⟩
theorem cw_X9_clear : CalV yX9_clear RX9 cX9_clear 3 (some .int) 1 := ⟨inG (in_t4 (List.mem_of_getElem? (i := 153) rfl)) rfl, inG (in_t4 (List.mem_of_getElem? (i := 154) rfl)) rfl, inG (in_t1 (List.mem_of_getElem? (i := 11) rfl)) rfl, inG (in_t4 (List.mem_of_getElem? (i := 155) rfl)) rfl, by decide +kernel⟩
theorem cw_X9_silent : CalV yX9_silent RX9 cX9_silent 4 (some .int) 2 := ⟨inG (in_t4 (List.mem_of_getElem? (i := 157) rfl)) rfl, inG (in_t4 (List.mem_of_getElem? (i := 158) rfl)) rfl, inG (in_t1 (List.mem_of_getElem? (i := 11) rfl)) rfl, inG (in_t4 (List.mem_of_getElem? (i := 159) rfl)) rfl, by decide +kernel⟩
theorem cw_X9_valueOf : CalS yX9_valueOf cX9_valueOf 2 (some .int) 2 := ⟨inG (in_t3 (List.mem_of_getElem? (i := 217) rfl)) rfl, inG (in_t1 (List.mem_of_getElem? (i := 11) rfl)) rfl, inG (in_t3 (List.mem_of_getElem? (i := 218) rfl)) rfl, by decide +kernel⟩
theorem cw_X9_with : CalS yX9_with cX9_with 4 (some .int) 3 := ⟨inG (in_t4 (List.mem_of_getElem? (i := 188) rfl)) rfl, inG (in_t1 (List.mem_of_getElem? (i := 11) rfl)) rfl, inG (in_t4 (List.mem_of_getElem? (i := 189) rfl)) rfl, by decide +kernel⟩
theorem cw_X9_held : CalV yX9_held RX9 cX9_held 3 (some .int) 2 := ⟨inG (in_t4 (List.mem_of_getElem? (i := 185) rfl)) rfl, inG (in_s2 (y := yX9_held) (n := 47) (List.mem_of_getElem? (i := 8) rfl)) rfl, inG (in_t1 (List.mem_of_getElem? (i := 11) rfl)) rfl, inG (in_t4 (List.mem_of_getElem? (i := 186) rfl)) rfl, by decide +kernel⟩
theorem cw_X9_work : CalV yX9_work RX9 cX9_work 7 none 3 := ⟨inG (in_t4 (List.mem_of_getElem? (i := 181) rfl)) rfl, inG (in_s2 (y := yX9_work) (n := 47) (List.mem_of_getElem? (i := 7) rfl)) rfl, inG (in_t1 (List.mem_of_getElem? (i := 11) rfl)) rfl, inG (in_t4 (List.mem_of_getElem? (i := 182) rfl)) rfl, by decide +kernel⟩
theorem cw_X9_layTable : CalV yX9_layTable RX9 cX9_layTable 4 none 1 := ⟨inG (in_t4 (List.mem_of_getElem? (i := 177) rfl)) rfl, inG (in_s2 (y := yX9_layTable) (n := 47) (List.mem_of_getElem? (i := 6) rfl)) rfl, inG (in_t1 (List.mem_of_getElem? (i := 11) rfl)) rfl, inG (in_t4 (List.mem_of_getElem? (i := 178) rfl)) rfl, by decide +kernel⟩
theorem cw_X9_step : CalV yX9_step RX9 cX9_step 5 none 3 := ⟨inG (in_t4 (List.mem_of_getElem? (i := 192) rfl)) rfl, inG (in_s2 (y := yX9_step) (n := 47) (List.mem_of_getElem? (i := 9) rfl)) rfl, inG (in_t1 (List.mem_of_getElem? (i := 11) rfl)) rfl, inG (in_t4 (List.mem_of_getElem? (i := 193) rfl)) rfl, by decide +kernel⟩
theorem cw_X9_runOne : CalV yX9_runOne RX9 cX9_runOne 8 none 3 := ⟨inG (in_t4 (List.mem_of_getElem? (i := 173) rfl)) rfl, inG (in_s2 (y := yX9_runOne) (n := 47) (List.mem_of_getElem? (i := 5) rfl)) rfl, inG (in_t1 (List.mem_of_getElem? (i := 11) rfl)) rfl, inG (in_t4 (List.mem_of_getElem? (i := 174) rfl)) rfl, by decide +kernel⟩
theorem cw_X9_runAll : CalV yX9_runAll RX9 cX9_runAll 4 none 2 := ⟨inG (in_t5 (List.mem_of_getElem? (i := 23) rfl)) rfl, inG (in_s3 (y := yX9_runAll) (n := 47) (List.mem_of_getElem? (i := 0) rfl)) rfl, inG (in_t1 (List.mem_of_getElem? (i := 11) rfl)) rfl, inG (in_t5 (List.mem_of_getElem? (i := 24) rfl)) rfl, by decide +kernel⟩
theorem cw_X9_isStart : CalS yX9_isStart cX9_isStart 1 (some .boolean) 1 := ⟨inG (in_t4 (List.mem_of_getElem? (i := 166) rfl)) rfl, inG (in_t1 (List.mem_of_getElem? (i := 11) rfl)) rfl, inG (in_t4 (List.mem_of_getElem? (i := 167) rfl)) rfl, by decide +kernel⟩
theorem cw_X9_run : CalV yX9_run RX9 cX9_run 4 (some .int) 3 := ⟨inG (in_t4 (List.mem_of_getElem? (i := 162) rfl)) rfl, inG (in_t4 (List.mem_of_getElem? (i := 163) rfl)) rfl, inG (in_t1 (List.mem_of_getElem? (i := 11) rfl)) rfl, inG (in_t4 (List.mem_of_getElem? (i := 164) rfl)) rfl, by decide +kernel⟩
theorem cw_X9_areShownAlike : CalV yX9_areShownAlike RX9 cX9_areShownAlike 6 (some .boolean) 3 := ⟨inG (in_t5 (List.mem_of_getElem? (i := 15) rfl)) rfl, inG (in_s2 (y := yX9_areShownAlike) (n := 47) (List.mem_of_getElem? (i := 15) rfl)) rfl, inG (in_t1 (List.mem_of_getElem? (i := 11) rfl)) rfl, inG (in_t5 (List.mem_of_getElem? (i := 16) rfl)) rfl, by decide +kernel⟩
theorem cw_X9_say : CalV yX9_say RX9 cX9_say 2 (some .int) 1 := ⟨inG (in_t4 (List.mem_of_getElem? (i := 195) rfl)) rfl, inG (in_t4 (List.mem_of_getElem? (i := 196) rfl)) rfl, inG (in_t1 (List.mem_of_getElem? (i := 11) rfl)) rfl, inG (in_t4 (List.mem_of_getElem? (i := 197) rfl)) rfl, by decide +kernel⟩
theorem cw_X9_wipe : CalV yX9_wipe RX9 cX9_wipe 2 (some .int) 0 := ⟨inG (in_t4 (List.mem_of_getElem? (i := 200) rfl)) rfl, inG (in_t4 (List.mem_of_getElem? (i := 201) rfl)) rfl, inG (in_t1 (List.mem_of_getElem? (i := 11) rfl)) rfl, inG (in_t4 (List.mem_of_getElem? (i := 202) rfl)) rfl, by decide +kernel⟩
theorem cw_X9_isLetter : CalS yX9_isLetter cX9_isLetter 1 (some .boolean) 1 := ⟨inG (in_t4 (List.mem_of_getElem? (i := 211) rfl)) rfl, inG (in_t1 (List.mem_of_getElem? (i := 11) rfl)) rfl, inG (in_t4 (List.mem_of_getElem? (i := 212) rfl)) rfl, by decide +kernel⟩
theorem cw_X9_isHow : CalS yX9_isHow cX9_isHow 1 (some .boolean) 1 := ⟨inG (in_t4 (List.mem_of_getElem? (i := 219) rfl)) rfl, inG (in_t1 (List.mem_of_getElem? (i := 11) rfl)) rfl, inG (in_t4 (List.mem_of_getElem? (i := 220) rfl)) rfl, by decide +kernel⟩
theorem cw_X9_isOfEnd : CalS yX9_isOfEnd cX9_isOfEnd 1 (some .boolean) 1 := ⟨inG (in_t4 (List.mem_of_getElem? (i := 216) rfl)) rfl, inG (in_t1 (List.mem_of_getElem? (i := 11) rfl)) rfl, inG (in_t4 (List.mem_of_getElem? (i := 217) rfl)) rfl, by decide +kernel⟩
theorem cw_X9_stepOf : CalS yX9_stepOf cX9_stepOf 3 (some .int) 3 := ⟨inG (in_t4 (List.mem_of_getElem? (i := 208) rfl)) rfl, inG (in_t1 (List.mem_of_getElem? (i := 11) rfl)) rfl, inG (in_t4 (List.mem_of_getElem? (i := 209) rfl)) rfl, by decide +kernel⟩
theorem cw_X9_fault : CalV yX9_fault RX9 cX9_fault 5 (some .int) 0 := ⟨inG (in_t4 (List.mem_of_getElem? (i := 204) rfl)) rfl, inG (in_t4 (List.mem_of_getElem? (i := 205) rfl)) rfl, inG (in_t1 (List.mem_of_getElem? (i := 11) rfl)) rfl, inG (in_t4 (List.mem_of_getElem? (i := 206) rfl)) rfl, by decide +kernel⟩
theorem cw_X9_saying : CalV yX9_saying RX9 cX9_saying 2 (some .int) 0 := ⟨inG (in_t4 (List.mem_of_getElem? (i := 222) rfl)) rfl, inG (in_t4 (List.mem_of_getElem? (i := 223) rfl)) rfl, inG (in_t1 (List.mem_of_getElem? (i := 11) rfl)) rfl, inG (in_t4 (List.mem_of_getElem? (i := 224) rfl)) rfl, by decide +kernel⟩
theorem cw_X9_isSaying : CalV yX9_isSaying RX9 cX9_isSaying 2 (some .boolean) 1 := ⟨inG (in_t4 (List.mem_of_getElem? (i := 232) rfl)) rfl, inG (in_s2 (y := yX9_isSaying) (n := 47) (List.mem_of_getElem? (i := 10) rfl)) rfl, inG (in_t1 (List.mem_of_getElem? (i := 11) rfl)) rfl, inG (in_t4 (List.mem_of_getElem? (i := 233) rfl)) rfl, by decide +kernel⟩
theorem cw_X9_stand : CalS yX9_stand cX9_stand 3 (some .boolean) 3 := ⟨inG (in_t5 (List.mem_of_getElem? (i := 7) rfl)) rfl, inG (in_t1 (List.mem_of_getElem? (i := 11) rfl)) rfl, inG (in_t5 (List.mem_of_getElem? (i := 8) rfl)) rfl, by decide +kernel⟩
theorem cw_X9_markOf : CalV yX9_markOf RX9 cX9_markOf 3 (some .int) 1 := ⟨inG (in_t5 (List.mem_of_getElem? (i := 0) rfl)) rfl, inG (in_s2 (y := yX9_markOf) (n := 47) (List.mem_of_getElem? (i := 12) rfl)) rfl, inG (in_t1 (List.mem_of_getElem? (i := 11) rfl)) rfl, inG (in_t5 (List.mem_of_getElem? (i := 1) rfl)) rfl, by decide +kernel⟩
theorem cw_X9_allStand : CalV yX9_allStand RX9 cX9_allStand 7 (some .boolean) 4 := ⟨inG (in_t5 (List.mem_of_getElem? (i := 4) rfl)) rfl, inG (in_s2 (y := yX9_allStand) (n := 47) (List.mem_of_getElem? (i := 13) rfl)) rfl, inG (in_t1 (List.mem_of_getElem? (i := 11) rfl)) rfl, inG (in_t5 (List.mem_of_getElem? (i := 5) rfl)) rfl, by decide +kernel⟩
theorem cw_X9_isMeant : CalV yX9_isMeant RX9 cX9_isMeant 4 (some .boolean) 3 := ⟨inG (in_t4 (List.mem_of_getElem? (i := 236) rfl)) rfl, inG (in_s2 (y := yX9_isMeant) (n := 47) (List.mem_of_getElem? (i := 11) rfl)) rfl, inG (in_t1 (List.mem_of_getElem? (i := 11) rfl)) rfl, inG (in_t4 (List.mem_of_getElem? (i := 237) rfl)) rfl, by decide +kernel⟩
theorem cw_X9_isAsSaid : CalV yX9_isAsSaid RX9 cX9_isAsSaid 9 (some .boolean) 3 := ⟨inG (in_t5 (List.mem_of_getElem? (i := 11) rfl)) rfl, inG (in_s2 (y := yX9_isAsSaid) (n := 47) (List.mem_of_getElem? (i := 14) rfl)) rfl, inG (in_t1 (List.mem_of_getElem? (i := 11) rfl)) rfl, inG (in_t5 (List.mem_of_getElem? (i := 12) rfl)) rfl, by decide +kernel⟩
theorem cw_X9_pair : CalV yX9_pair RX9 cX9_pair 8 (some .int) 6 := ⟨inG (in_t4 (List.mem_of_getElem? (i := 227) rfl)) rfl, inG (in_t4 (List.mem_of_getElem? (i := 228) rfl)) rfl, inG (in_t1 (List.mem_of_getElem? (i := 11) rfl)) rfl, inG (in_t4 (List.mem_of_getElem? (i := 229) rfl)) rfl, by decide +kernel⟩
theorem cw_X9_findPairs : CalV yX9_findPairs RX9 cX9_findPairs 6 none 1 := ⟨inG (in_t5 (List.mem_of_getElem? (i := 27) rfl)) rfl, inG (in_s3 (y := yX9_findPairs) (n := 47) (List.mem_of_getElem? (i := 1) rfl)) rfl, inG (in_t1 (List.mem_of_getElem? (i := 11) rfl)) rfl, inG (in_t5 (List.mem_of_getElem? (i := 28) rfl)) rfl, by decide +kernel⟩
theorem cw_X9_holds : CalV yX9_holds RX9 cX9_holds 6 (some .int) 4 := ⟨inG (in_t5 (List.mem_of_getElem? (i := 18) rfl)) rfl, inG (in_t5 (List.mem_of_getElem? (i := 19) rfl)) rfl, inG (in_t1 (List.mem_of_getElem? (i := 11) rfl)) rfl, inG (in_t5 (List.mem_of_getElem? (i := 20) rfl)) rfl, by decide +kernel⟩
theorem cw_X9_beginBoth : CalV yX9_beginBoth RX9 cX9_beginBoth 5 none 4 := ⟨inG (in_t5 (List.mem_of_getElem? (i := 35) rfl)) rfl, inG (in_s3 (y := yX9_beginBoth) (n := 47) (List.mem_of_getElem? (i := 2) rfl)) rfl, inG (in_t1 (List.mem_of_getElem? (i := 11) rfl)) rfl, inG (in_t5 (List.mem_of_getElem? (i := 36) rfl)) rfl, by decide +kernel⟩
theorem cw_X9_stepFirst : CalV yX9_stepFirst RX9 cX9_stepFirst 2 none 1 := ⟨inG (in_t5 (List.mem_of_getElem? (i := 39) rfl)) rfl, inG (in_s3 (y := yX9_stepFirst) (n := 47) (List.mem_of_getElem? (i := 3) rfl)) rfl, inG (in_t1 (List.mem_of_getElem? (i := 11) rfl)) rfl, inG (in_t5 (List.mem_of_getElem? (i := 40) rfl)) rfl, by decide +kernel⟩
theorem cw_X9_stepSecond : CalV yX9_stepSecond RX9 cX9_stepSecond 2 none 1 := ⟨inG (in_t5 (List.mem_of_getElem? (i := 43) rfl)) rfl, inG (in_s3 (y := yX9_stepSecond) (n := 47) (List.mem_of_getElem? (i := 4) rfl)) rfl, inG (in_t1 (List.mem_of_getElem? (i := 11) rfl)) rfl, inG (in_t5 (List.mem_of_getElem? (i := 44) rfl)) rfl, by decide +kernel⟩
theorem cw_X9_part : CalV yX9_part RX9 cX9_part 6 (some .int) 4 := ⟨inG (in_t5 (List.mem_of_getElem? (i := 30) rfl)) rfl, inG (in_t5 (List.mem_of_getElem? (i := 31) rfl)) rfl, inG (in_t1 (List.mem_of_getElem? (i := 11) rfl)) rfl, inG (in_t5 (List.mem_of_getElem? (i := 32) rfl)) rfl, by decide +kernel⟩
theorem cw_X9_wait : CalV yX9_wait RX9 cX9_wait 5 (some .int) 3 := ⟨inG (in_t5 (List.mem_of_getElem? (i := 46) rfl)) rfl, inG (in_t5 (List.mem_of_getElem? (i := 47) rfl)) rfl, inG (in_t1 (List.mem_of_getElem? (i := 11) rfl)) rfl, inG (in_t5 (List.mem_of_getElem? (i := 48) rfl)) rfl, by decide +kernel⟩
theorem cw_X9_moverAt : CalV yX9_moverAt RX9 cX9_moverAt 3 (some .int) 2 := ⟨inG (in_t5 (List.mem_of_getElem? (i := 69) rfl)) rfl, inG (in_s3 (y := yX9_moverAt) (n := 47) (List.mem_of_getElem? (i := 8) rfl)) rfl, inG (in_t1 (List.mem_of_getElem? (i := 11) rfl)) rfl, inG (in_t5 (List.mem_of_getElem? (i := 70) rfl)) rfl, by decide +kernel⟩
theorem cw_X9_saysOf : CalS yX9_saysOf cX9_saysOf 6 (some .int) 2 := ⟨inG (in_t3 (List.mem_of_getElem? (i := 214) rfl)) rfl, inG (in_t1 (List.mem_of_getElem? (i := 11) rfl)) rfl, inG (in_t3 (List.mem_of_getElem? (i := 215) rfl)) rfl, by decide +kernel⟩
theorem cw_X9_standThere : CalV yX9_standThere RX9 cX9_standThere 2 none 0 := ⟨inG (in_t5 (List.mem_of_getElem? (i := 65) rfl)) rfl, inG (in_s3 (y := yX9_standThere) (n := 47) (List.mem_of_getElem? (i := 7) rfl)) rfl, inG (in_t1 (List.mem_of_getElem? (i := 11) rfl)) rfl, inG (in_t5 (List.mem_of_getElem? (i := 66) rfl)) rfl, by decide +kernel⟩
theorem cw_X9_walkOne : CalV yX9_walkOne RX9 cX9_walkOne 5 none 2 := ⟨inG (in_t5 (List.mem_of_getElem? (i := 61) rfl)) rfl, inG (in_s3 (y := yX9_walkOne) (n := 47) (List.mem_of_getElem? (i := 6) rfl)) rfl, inG (in_t1 (List.mem_of_getElem? (i := 11) rfl)) rfl, inG (in_t5 (List.mem_of_getElem? (i := 62) rfl)) rfl, by decide +kernel⟩
theorem cw_X9_walkAll : CalV yX9_walkAll RX9 cX9_walkAll 7 none 3 := ⟨inG (in_t5 (List.mem_of_getElem? (i := 57) rfl)) rfl, inG (in_s3 (y := yX9_walkAll) (n := 47) (List.mem_of_getElem? (i := 5) rfl)) rfl, inG (in_t1 (List.mem_of_getElem? (i := 11) rfl)) rfl, inG (in_t5 (List.mem_of_getElem? (i := 58) rfl)) rfl, by decide +kernel⟩
theorem cw_X9_walk : CalV yX9_walk RX9 cX9_walk 7 (some .int) 4 := ⟨inG (in_t5 (List.mem_of_getElem? (i := 52) rfl)) rfl, inG (in_t5 (List.mem_of_getElem? (i := 53) rfl)) rfl, inG (in_t1 (List.mem_of_getElem? (i := 11) rfl)) rfl, inG (in_t5 (List.mem_of_getElem? (i := 54) rfl)) rfl, by decide +kernel⟩
theorem cw_X9_isPlace : CalS yX9_isPlace cX9_isPlace 2 (some .boolean) 2 := ⟨inG (in_t5 (List.mem_of_getElem? (i := 76) rfl)) rfl, inG (in_t1 (List.mem_of_getElem? (i := 11) rfl)) rfl, inG (in_t5 (List.mem_of_getElem? (i := 77) rfl)) rfl, by decide +kernel⟩
theorem cw_X9_shape : CalV yX9_shape RX9 cX9_shape 6 (some .int) 5 := ⟨inG (in_t5 (List.mem_of_getElem? (i := 72) rfl)) rfl, inG (in_t5 (List.mem_of_getElem? (i := 73) rfl)) rfl, inG (in_t1 (List.mem_of_getElem? (i := 11) rfl)) rfl, inG (in_t5 (List.mem_of_getElem? (i := 74) rfl)) rfl, by decide +kernel⟩
theorem cw_X9_tell : CalV yX9_tell RX9 cX9_tell 5 (some .int) 3 := ⟨inG (in_t5 (List.mem_of_getElem? (i := 79) rfl)) rfl, inG (in_t5 (List.mem_of_getElem? (i := 80) rfl)) rfl, inG (in_t1 (List.mem_of_getElem? (i := 11) rfl)) rfl, inG (in_t5 (List.mem_of_getElem? (i := 81) rfl)) rfl, by decide +kernel⟩
theorem cw_X9_isKept : CalV yX9_isKept RX9 cX9_isKept 10 (some .boolean) 4 := ⟨inG (in_t5 (List.mem_of_getElem? (i := 88) rfl)) rfl, inG (in_s3 (y := yX9_isKept) (n := 47) (List.mem_of_getElem? (i := 9) rfl)) rfl, inG (in_t1 (List.mem_of_getElem? (i := 11) rfl)) rfl, inG (in_t5 (List.mem_of_getElem? (i := 89) rfl)) rfl, by decide +kernel⟩
theorem cw_X9_fails : CalV yX9_fails RX9 cX9_fails 5 (some .int) 3 := ⟨inG (in_t5 (List.mem_of_getElem? (i := 83) rfl)) rfl, inG (in_t5 (List.mem_of_getElem? (i := 84) rfl)) rfl, inG (in_t1 (List.mem_of_getElem? (i := 11) rfl)) rfl, inG (in_t5 (List.mem_of_getElem? (i := 85) rfl)) rfl, by decide +kernel⟩
theorem cw_X9_so : CalV yX9_so RX9 cX9_so 7 (some .int) 3 := ⟨inG (in_t5 (List.mem_of_getElem? (i := 91) rfl)) rfl, inG (in_t5 (List.mem_of_getElem? (i := 92) rfl)) rfl, inG (in_t1 (List.mem_of_getElem? (i := 11) rfl)) rfl, inG (in_t5 (List.mem_of_getElem? (i := 93) rfl)) rfl, by decide +kernel⟩
theorem cw_X9_bestSilence : CalV yX9_bestSilence RX9 cX9_bestSilence 8 (some .int) 3 := ⟨inG (in_t5 (List.mem_of_getElem? (i := 99) rfl)) rfl, inG (in_s3 (y := yX9_bestSilence) (n := 47) (List.mem_of_getElem? (i := 10) rfl)) rfl, inG (in_t1 (List.mem_of_getElem? (i := 11) rfl)) rfl, inG (in_t5 (List.mem_of_getElem? (i := 100) rfl)) rfl, by decide +kernel⟩
theorem cw_X9_noneBroken : CalV yX9_noneBroken RX9 cX9_noneBroken 5 (some .boolean) 1 := ⟨inG (in_t5 (List.mem_of_getElem? (i := 103) rfl)) rfl, inG (in_s3 (y := yX9_noneBroken) (n := 47) (List.mem_of_getElem? (i := 11) rfl)) rfl, inG (in_t1 (List.mem_of_getElem? (i := 11) rfl)) rfl, inG (in_t5 (List.mem_of_getElem? (i := 104) rfl)) rfl, by decide +kernel⟩
theorem cw_X9_areAlikeIn : CalS yX9_areAlikeIn cX9_areAlikeIn 5 (some .boolean) 3 := ⟨inG (in_t5 (List.mem_of_getElem? (i := 112) rfl)) rfl, inG (in_t1 (List.mem_of_getElem? (i := 11) rfl)) rfl, inG (in_t5 (List.mem_of_getElem? (i := 113) rfl)) rfl, by decide +kernel⟩
theorem cw_X9_fit : CalV yX9_fit RX9 cX9_fit 10 (some .int) 5 := ⟨inG (in_t5 (List.mem_of_getElem? (i := 106) rfl)) rfl, inG (in_t5 (List.mem_of_getElem? (i := 107) rfl)) rfl, inG (in_t1 (List.mem_of_getElem? (i := 11) rfl)) rfl, inG (in_t5 (List.mem_of_getElem? (i := 108) rfl)) rfl, by decide +kernel⟩
theorem cw_X9_far : CalV yX9_far RX9 cX9_far 10 (some .int) 4 := ⟨inG (in_t5 (List.mem_of_getElem? (i := 115) rfl)) rfl, inG (in_t5 (List.mem_of_getElem? (i := 116) rfl)) rfl, inG (in_t1 (List.mem_of_getElem? (i := 11) rfl)) rfl, inG (in_t5 (List.mem_of_getElem? (i := 117) rfl)) rfl, by decide +kernel⟩
theorem cw_X9_unlikeLines : CalV yX9_unlikeLines RX9 cX9_unlikeLines 10 (some .int) 2 := ⟨inG (in_t5 (List.mem_of_getElem? (i := 124) rfl)) rfl, inG (in_s3 (y := yX9_unlikeLines) (n := 47) (List.mem_of_getElem? (i := 12) rfl)) rfl, inG (in_t1 (List.mem_of_getElem? (i := 11) rfl)) rfl, inG (in_t5 (List.mem_of_getElem? (i := 125) rfl)) rfl, by decide +kernel⟩
theorem cw_X9_changed : CalV yX9_changed RX9 cX9_changed 9 (some .int) 3 := ⟨inG (in_t5 (List.mem_of_getElem? (i := 119) rfl)) rfl, inG (in_t5 (List.mem_of_getElem? (i := 120) rfl)) rfl, inG (in_t1 (List.mem_of_getElem? (i := 11) rfl)) rfl, inG (in_t5 (List.mem_of_getElem? (i := 121) rfl)) rfl, by decide +kernel⟩
theorem cw_X9_come : CalV yX9_come RX9 cX9_come 5 none 3 := ⟨inG (in_t5 (List.mem_of_getElem? (i := 137) rfl)) rfl, inG (in_s3 (y := yX9_come) (n := 47) (List.mem_of_getElem? (i := 14) rfl)) rfl, inG (in_t1 (List.mem_of_getElem? (i := 11) rfl)) rfl, inG (in_t5 (List.mem_of_getElem? (i := 138) rfl)) rfl, by decide +kernel⟩
theorem cw_X9_findOrders : CalV yX9_findOrders RX9 cX9_findOrders 8 none 3 := ⟨inG (in_t5 (List.mem_of_getElem? (i := 133) rfl)) rfl, inG (in_s3 (y := yX9_findOrders) (n := 47) (List.mem_of_getElem? (i := 13) rfl)) rfl, inG (in_t1 (List.mem_of_getElem? (i := 11) rfl)) rfl, inG (in_t5 (List.mem_of_getElem? (i := 134) rfl)) rfl, by decide +kernel⟩
theorem cw_X9_orders : CalV yX9_orders RX9 cX9_orders 9 (some .int) 4 := ⟨inG (in_t5 (List.mem_of_getElem? (i := 127) rfl)) rfl, inG (in_t5 (List.mem_of_getElem? (i := 128) rfl)) rfl, inG (in_t1 (List.mem_of_getElem? (i := 11) rfl)) rfl, inG (in_t5 (List.mem_of_getElem? (i := 129) rfl)) rfl, by decide +kernel⟩
theorem cw_X9_told : CalV yX9_told RX9 cX9_told 2 (some .int) 1 := ⟨inG (in_t5 (List.mem_of_getElem? (i := 141) rfl)) rfl, inG (in_t5 (List.mem_of_getElem? (i := 142) rfl)) rfl, inG (in_t1 (List.mem_of_getElem? (i := 11) rfl)) rfl, inG (in_t5 (List.mem_of_getElem? (i := 143) rfl)) rfl, by decide +kernel⟩
theorem cw_J6_bitCount_0f7a4 : CalS yJ6_bitCount_0f7a4 cJ6_bitCount_0f7a4 1 (some .int) 1 := ⟨inG (in_t3 (List.mem_of_getElem? (i := 93) rfl)) rfl, inG (in_t1 (List.mem_of_getElem? (i := 14) rfl)) rfl, inG (in_t3 (List.mem_of_getElem? (i := 94) rfl)) rfl, by decide +kernel⟩
theorem cw_J9_abs_0f7a4 : CalS yJ9_abs_0f7a4 cJ9_abs_0f7a4 1 (some .int) 1 := ⟨inG (in_t3 (List.mem_of_getElem? (i := 150) rfl)) rfl, inG (in_t1 (List.mem_of_getElem? (i := 13) rfl)) rfl, inG (in_t3 (List.mem_of_getElem? (i := 151) rfl)) rfl, by decide +kernel⟩
theorem cw_J9_max_7cf53 : CalS yJ9_max_7cf53 cJ9_max_7cf53 2 (some .int) 2 := ⟨inG (in_t3 (List.mem_of_getElem? (i := 34) rfl)) rfl, inG (in_t1 (List.mem_of_getElem? (i := 13) rfl)) rfl, inG (in_t3 (List.mem_of_getElem? (i := 35) rfl)) rfl, by decide +kernel⟩
theorem cw_J9_min_7cf53 : CalS yJ9_min_7cf53 cJ9_min_7cf53 2 (some .int) 2 := ⟨inG (in_t3 (List.mem_of_getElem? (i := 1) rfl)) rfl, inG (in_t1 (List.mem_of_getElem? (i := 13) rfl)) rfl, inG (in_t3 (List.mem_of_getElem? (i := 2) rfl)) rfl, by decide +kernel⟩
theorem cw_J7_fill_d0a16 : CalS yJ7_fill_d0a16 cJ7_fill_d0a16 5 none 2 := ⟨inG (in_t3 (List.mem_of_getElem? (i := 175) rfl)) rfl, inG (in_t1 (List.mem_of_getElem? (i := 9) rfl)) rfl, inG (in_t3 (List.mem_of_getElem? (i := 176) rfl)) rfl, by decide +kernel⟩
theorem cw_J7_fill_53178 : CalS yJ7_fill_53178 cJ7_fill_53178 4 none 2 := ⟨inG (in_t1 (List.mem_of_getElem? (i := 213) rfl)) rfl, inG (in_t1 (List.mem_of_getElem? (i := 9) rfl)) rfl, inG (in_t1 (List.mem_of_getElem? (i := 214) rfl)) rfl, by decide +kernel⟩
