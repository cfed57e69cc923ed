/-! ===== constructors ===== -/
theorem ka_int : Cond.arrayClass (newarray.typeOf .int) ∈ WSl := inG (in_t1 (List.mem_of_getElem? (i := 42) rfl)) rfl
theorem ka_long : Cond.arrayClass (newarray.typeOf .long) ∈ WSl := inG (in_t1 (List.mem_of_getElem? (i := 112) rfl)) rfl
theorem ka_boolean : Cond.arrayClass (newarray.typeOf .boolean) ∈ WSl := inG (in_t4 (List.mem_of_getElem? (i := 121) rfl)) rfl
theorem ko_X8 : Cond.methodLink RX8 3 objectInit ∈ WSl := inG (in_t1 (List.mem_of_getElem? (i := 20) rfl)) rfl
theorem ko_X1 : Cond.methodLink RX1 3 objectInit ∈ WSl := inG (in_t1 (List.mem_of_getElem? (i := 28) rfl)) rfl
theorem ko_X4 : Cond.methodLink RX4 3 objectInit ∈ WSl := inG (in_t1 (List.mem_of_getElem? (i := 49) rfl)) rfl
theorem ko_X5 : Cond.methodLink RX5 3 objectInit ∈ WSl := inG (in_t1 (List.mem_of_getElem? (i := 119) rfl)) rfl
theorem ko_X0 : Cond.methodLink RX0 1 objectInit ∈ WSl := inG (in_t1 (List.mem_of_getElem? (i := 142) rfl)) rfl
theorem ko_X3 : Cond.methodLink RX3 3 objectInit ∈ WSl := inG (in_t1 (List.mem_of_getElem? (i := 165) rfl)) rfl
theorem ko_X6 : Cond.methodLink RX6 3 objectInit ∈ WSl := inG (in_t1 (List.mem_of_getElem? (i := 195) rfl)) rfl
theorem ko_X7 : Cond.methodLink RX7 3 objectInit ∈ WSl := inG (in_t1 (List.mem_of_getElem? (i := 211) rfl)) rfl
theorem ko_X2 : Cond.methodLink RX2 3 objectInit ∈ WSl := inG (in_t2 (List.mem_of_getElem? (i := 19) rfl)) rfl
theorem ko_X9 : Cond.methodLink RX9 1 objectInit ∈ WSl := inG (in_t3 (List.mem_of_getElem? (i := 210) rfl)) rfl
theorem ci_X0_init : Cond.instanceMethod yX0_init ∈ WSl ∧ Cond.initialized yX0_init.cls ∈ WSl ∧ Cond.code yX0_init cX0_init 2 none ∈ WSl ∧ yX0_init.name = "<init>" := ⟨inG (in_t1 (List.mem_of_getElem? (i := 140) rfl)) rfl, inG (in_t1 (List.mem_of_getElem? (i := 5) rfl)) rfl, inG (in_t1 (List.mem_of_getElem? (i := 141) rfl)) rfl, rfl⟩
theorem ci_X1_init : Cond.instanceMethod yX1_init ∈ WSl ∧ Cond.initialized yX1_init.cls ∈ WSl ∧ Cond.code yX1_init cX1_init 4 none ∈ WSl ∧ yX1_init.name = "<init>" := ⟨inG (in_t1 (List.mem_of_getElem? (i := 26) rfl)) rfl, inG (in_t1 (List.mem_of_getElem? (i := 2) rfl)) rfl, inG (in_t1 (List.mem_of_getElem? (i := 27) rfl)) rfl, rfl⟩
theorem ci_X2_init : Cond.instanceMethod yX2_init ∈ WSl ∧ Cond.initialized yX2_init.cls ∈ WSl ∧ Cond.code yX2_init cX2_init 1 none ∈ WSl ∧ yX2_init.name = "<init>" := ⟨inG (in_t2 (List.mem_of_getElem? (i := 17) rfl)) rfl, inG (in_t1 (List.mem_of_getElem? (i := 10) rfl)) rfl, inG (in_t2 (List.mem_of_getElem? (i := 18) rfl)) rfl, rfl⟩
theorem ci_X3_init : Cond.instanceMethod yX3_init ∈ WSl ∧ Cond.initialized yX3_init.cls ∈ WSl ∧ Cond.code yX3_init cX3_init 2 none ∈ WSl ∧ yX3_init.name = "<init>" := ⟨inG (in_t1 (List.mem_of_getElem? (i := 163) rfl)) rfl, inG (in_t1 (List.mem_of_getElem? (i := 6) rfl)) rfl, inG (in_t1 (List.mem_of_getElem? (i := 164) rfl)) rfl, rfl⟩
theorem ci_X4_init : Cond.instanceMethod yX4_init ∈ WSl ∧ Cond.initialized yX4_init.cls ∈ WSl ∧ Cond.code yX4_init cX4_init 2 none ∈ WSl ∧ yX4_init.name = "<init>" := ⟨inG (in_t1 (List.mem_of_getElem? (i := 47) rfl)) rfl, inG (in_t1 (List.mem_of_getElem? (i := 3) rfl)) rfl, inG (in_t1 (List.mem_of_getElem? (i := 48) rfl)) rfl, rfl⟩
theorem ci_X5_init : Cond.instanceMethod yX5_init ∈ WSl ∧ Cond.initialized yX5_init.cls ∈ WSl ∧ Cond.code yX5_init cX5_init 1 none ∈ WSl ∧ yX5_init.name = "<init>" := ⟨inG (in_t1 (List.mem_of_getElem? (i := 117) rfl)) rfl, inG (in_t1 (List.mem_of_getElem? (i := 4) rfl)) rfl, inG (in_t1 (List.mem_of_getElem? (i := 118) rfl)) rfl, rfl⟩
theorem ci_X6_init : Cond.instanceMethod yX6_init ∈ WSl ∧ Cond.initialized yX6_init.cls ∈ WSl ∧ Cond.code yX6_init cX6_init 2 none ∈ WSl ∧ yX6_init.name = "<init>" := ⟨inG (in_t1 (List.mem_of_getElem? (i := 193) rfl)) rfl, inG (in_t1 (List.mem_of_getElem? (i := 7) rfl)) rfl, inG (in_t1 (List.mem_of_getElem? (i := 194) rfl)) rfl, rfl⟩
theorem ci_X7_init : Cond.instanceMethod yX7_init ∈ WSl ∧ Cond.initialized yX7_init.cls ∈ WSl ∧ Cond.code yX7_init cX7_init 3 none ∈ WSl ∧ yX7_init.name = "<init>" := ⟨inG (in_t1 (List.mem_of_getElem? (i := 209) rfl)) rfl, inG (in_t1 (List.mem_of_getElem? (i := 8) rfl)) rfl, inG (in_t1 (List.mem_of_getElem? (i := 210) rfl)) rfl, rfl⟩
theorem ci_X8_init : Cond.instanceMethod yX8_init ∈ WSl ∧ Cond.initialized yX8_init.cls ∈ WSl ∧ Cond.code yX8_init cX8_init 3 none ∈ WSl ∧ yX8_init.name = "<init>" := ⟨inG (in_t1 (List.mem_of_getElem? (i := 18) rfl)) rfl, inG (in_t1 (List.mem_of_getElem? (i := 1) rfl)) rfl, inG (in_t1 (List.mem_of_getElem? (i := 19) rfl)) rfl, rfl⟩
theorem ci_X9_init : Cond.instanceMethod yX9_init ∈ WSl ∧ Cond.initialized yX9_init.cls ∈ WSl ∧ Cond.code yX9_init cX9_init 3 none ∈ WSl ∧ yX9_init.name = "<init>" := ⟨inG (in_t3 (List.mem_of_getElem? (i := 208) rfl)) rfl, inG (in_t1 (List.mem_of_getElem? (i := 11) rfl)) rfl, inG (in_t3 (List.mem_of_getElem? (i := 209) rfl)) rfl, rfl⟩
theorem kc_X8_9 : Cond.classLink RX8 9 RX1 ∈ WSl := inG (in_t1 (List.mem_of_getElem? (i := 23) rfl)) rfl
theorem kc_X8_12 : Cond.classLink RX8 12 RX4 ∈ WSl := inG (in_t1 (List.mem_of_getElem? (i := 43) rfl)) rfl
theorem kc_X8_21 : Cond.classLink RX8 21 RX5 ∈ WSl := inG (in_t1 (List.mem_of_getElem? (i := 113) rfl)) rfl
theorem kc_X8_36 : Cond.classLink RX8 36 RX0 ∈ WSl := inG (in_t1 (List.mem_of_getElem? (i := 137) rfl)) rfl
theorem kc_X8_43 : Cond.classLink RX8 43 RX3 ∈ WSl := inG (in_t1 (List.mem_of_getElem? (i := 160) rfl)) rfl
theorem kc_X8_52 : Cond.classLink RX8 52 RX6 ∈ WSl := inG (in_t1 (List.mem_of_getElem? (i := 190) rfl)) rfl
theorem kc_X8_59 : Cond.classLink RX8 59 RX7 ∈ WSl := inG (in_t1 (List.mem_of_getElem? (i := 206) rfl)) rfl
theorem kc_X8_66 : Cond.classLink RX8 66 RX2 ∈ WSl := inG (in_t2 (List.mem_of_getElem? (i := 14) rfl)) rfl
theorem kc_L_7 : Cond.classLink RL 7 RX8 ∈ WSl := inG (in_t1 (List.mem_of_getElem? (i := 15) rfl)) rfl
theorem kc_L_10 : Cond.classLink RL 10 RX9 ∈ WSl := inG (in_t3 (List.mem_of_getElem? (i := 205) rfl)) rfl
theorem kn_X0 : Cond.instantiable RX0 5 ∈ WSl ∧ Cond.initialized RX0 ∈ WSl := ⟨inG (in_t1 (List.mem_of_getElem? (i := 138) rfl)) rfl, inG (in_t1 (List.mem_of_getElem? (i := 5) rfl)) rfl⟩
theorem kn_X1 : Cond.instantiable RX1 2 ∈ WSl ∧ Cond.initialized RX1 ∈ WSl := ⟨inG (in_t1 (List.mem_of_getElem? (i := 24) rfl)) rfl, inG (in_t1 (List.mem_of_getElem? (i := 2) rfl)) rfl⟩
theorem kn_X2 : Cond.instantiable RX2 4 ∈ WSl ∧ Cond.initialized RX2 ∈ WSl := ⟨inG (in_t2 (List.mem_of_getElem? (i := 15) rfl)) rfl, inG (in_t1 (List.mem_of_getElem? (i := 10) rfl)) rfl⟩
theorem kn_X3 : Cond.instantiable RX3 6 ∈ WSl ∧ Cond.initialized RX3 ∈ WSl := ⟨inG (in_t1 (List.mem_of_getElem? (i := 161) rfl)) rfl, inG (in_t1 (List.mem_of_getElem? (i := 6) rfl)) rfl⟩
theorem kn_X4 : Cond.instantiable RX4 16 ∈ WSl ∧ Cond.initialized RX4 ∈ WSl := ⟨inG (in_t1 (List.mem_of_getElem? (i := 45) rfl)) rfl, inG (in_t1 (List.mem_of_getElem? (i := 3) rfl)) rfl⟩
theorem kn_X5 : Cond.instantiable RX5 4 ∈ WSl ∧ Cond.initialized RX5 ∈ WSl := ⟨inG (in_t1 (List.mem_of_getElem? (i := 115) rfl)) rfl, inG (in_t1 (List.mem_of_getElem? (i := 4) rfl)) rfl⟩
theorem kn_X6 : Cond.instantiable RX6 3 ∈ WSl ∧ Cond.initialized RX6 ∈ WSl := ⟨inG (in_t1 (List.mem_of_getElem? (i := 191) rfl)) rfl, inG (in_t1 (List.mem_of_getElem? (i := 7) rfl)) rfl⟩
theorem kn_X7 : Cond.instantiable RX7 11 ∈ WSl ∧ Cond.initialized RX7 ∈ WSl := ⟨inG (in_t1 (List.mem_of_getElem? (i := 207) rfl)) rfl, inG (in_t1 (List.mem_of_getElem? (i := 8) rfl)) rfl⟩
theorem kn_X8 : Cond.instantiable RX8 9 ∈ WSl ∧ Cond.initialized RX8 ∈ WSl := ⟨inG (in_t1 (List.mem_of_getElem? (i := 16) rfl)) rfl, inG (in_t1 (List.mem_of_getElem? (i := 1) rfl)) rfl⟩
theorem kn_X9 : Cond.instantiable RX9 47 ∈ WSl ∧ Cond.initialized RX9 ∈ WSl := ⟨inG (in_t3 (List.mem_of_getElem? (i := 206) rfl)) rfl, inG (in_t1 (List.mem_of_getElem? (i := 11) rfl)) rfl⟩
abbrev rm_X0_init : Room := { frames := 1, cells := 0, slots := 0, locals := 20 }
set_option maxHeartbeats 4000000 in
set_option maxRecDepth 20000 in
theorem c_X0_init (l : Launch) (D : va_G) (cy : Cy) (h0 f0 : Nat) : MetA D cy l yX0_init cX0_init 2 rm_X0_init [.ref h0, .ref f0] [(h0, .inr (0, [.null, .int 0, .int 0, .long 0, .long 0]))] (fun w => w = [(h0, .inr (0, [.ref f0, .int 0, .int 0, .long 0, .long 0]))]) := by
  refine MetA.of (lv := [(0, .ref h0), (1, .ref f0)]) (by decide) rfl (Nat.le_of_ble_eq_true rfl) rfl ?_
  refine h_aload_n (pc := 0) 0 dX0_init_0 rfl rfl ?_
  refine h_obj (pc := 1) ko_X0 ⟨by decide, Nat.le_of_ble_eq_true rfl⟩ dX0_init_1 ?_
  refine h_aload_n (pc := 4) 0 dX0_init_4 rfl rfl ?_
  refine h_aload_n (pc := 5) 1 dX0_init_5 rfl rfl ?_
  refine h_put (pc := 6) (ws' := [(h0, .inr (0, [.ref f0, .int 0, .int 0, .long 0, .long 0]))]) (ty := .object "TwinRuns$Forms") 0 0 rfl rfl inX0 tyX0 tyX0_ok nmX0 (by decide) kf_X0_7 (Or.inr rfl) (by decide +kernel) rfl rfl (Nat.le_of_ble_eq_true rfl) rfl dX0_init_6 ?_
  exact h_ret (pc := 9) ⟨Nat.le_of_ble_eq_true rfl, Nat.le_of_ble_eq_true rfl⟩ rfl dX0_init_9
abbrev rm_X3_init : Room := { frames := 1, cells := 0, slots := 0, locals := 20 }
set_option maxHeartbeats 4000000 in
set_option maxRecDepth 20000 in
theorem c_X3_init (l : Launch) (D : va_G) (cy : Cy) (h0 f0 : Nat) : MetA D cy l yX3_init cX3_init 2 rm_X3_init [.ref h0, .ref f0] [(h0, .inr (3, [.null, .int 0, .int 0, .int 0, .int 0, .int 0]))] (fun w => w = [(h0, .inr (3, [.ref f0, .int (-6), .int 0, .int 0, .int 0, .int 0]))]) := by
  refine MetA.of (lv := [(0, .ref h0), (1, .ref f0)]) (by decide) rfl (Nat.le_of_ble_eq_true rfl) rfl ?_
  refine h_aload_n (pc := 0) 0 dX3_init_0 rfl rfl ?_
  refine h_obj (pc := 1) ko_X3 ⟨by decide, Nat.le_of_ble_eq_true rfl⟩ dX3_init_1 ?_
  refine h_aload_n (pc := 4) 0 dX3_init_4 rfl rfl ?_
  refine h_aload_n (pc := 5) 1 dX3_init_5 rfl rfl ?_
  refine h_put (pc := 6) (ws' := [(h0, .inr (3, [.ref f0, .int 0, .int 0, .int 0, .int 0, .int 0]))]) (ty := .object "TwinRuns$Asked") 0 0 rfl rfl inX3 tyX3 tyX3_ok nmX3 (by decide) kf_X3_9 (Or.inr rfl) (by decide +kernel) rfl rfl (Nat.le_of_ble_eq_true rfl) rfl dX3_init_6 ?_
  refine h_aload_n (pc := 9) 0 dX3_init_9 rfl rfl ?_
  refine h_bipush (pc := 10) (-6) dX3_init_10 (by decide) ?_
  refine h_put (pc := 12) (ws' := [(h0, .inr (3, [.ref f0, .int (-6), .int 0, .int 0, .int 0, .int 0]))]) (ty := .int) 0 1 rfl rfl inX3 tyX3 tyX3_ok nmX3 (by decide) kf_X3_15 (Or.inr rfl) (by decide +kernel) rfl rfl (Nat.le_of_ble_eq_true rfl) rfl dX3_init_12 ?_
  exact h_ret (pc := 15) ⟨Nat.le_of_ble_eq_true rfl, Nat.le_of_ble_eq_true rfl⟩ rfl dX3_init_15
abbrev rm_X5_init : Room := { frames := 1, cells := 1, slots := 40, locals := 20 }
set_option maxHeartbeats 4000000 in
set_option maxRecDepth 20000 in
theorem c_X5_init (l : Launch) (D : va_G) (cy : Cy) (h0 : Nat) : MetA D cy l yX5_init cX5_init 1 rm_X5_init [.ref h0] [(h0, .inr (5, [.null, .int 0, .long 0, .int 0]))] (fun w => ∃ q1 : Nat, w = [(h0, .inr (5, [.ref q1, .int (0), .long (0), .int (0)])), (q1, .inl (cy.1, 40, .inl (fun _ => 0)))]) := by
  refine MetA.of (lv := [(0, .ref h0)]) (by decide) rfl (Nat.le_of_ble_eq_true rfl) rfl ?_
  refine h_aload_n (pc := 0) 0 dX5_init_0 rfl rfl ?_
  refine h_obj (pc := 1) ko_X5 ⟨by decide, Nat.le_of_ble_eq_true rfl⟩ dX5_init_1 ?_
  refine h_aload_n (pc := 4) 0 dX5_init_4 rfl rfl ?_
  refine h_bipush (pc := 5) (40) dX5_init_5 (by decide) ?_
  refine h_newa (pc := 7) 0 (40, .inl (fun _ => 0)) ka_int rfl rfl (fun _ _ h => h) (fun _ => rfl) (by decide) (by decide) (by decide) (Nat.le_of_ble_eq_true rfl) (Nat.le_of_ble_eq_true rfl) dX5_init_7 (fun q1 => ?_)
  refine h_eq (ws' := [(h0, .inr (5, [.null, .int 0, .long 0, .int 0])), (q1, .inl (cy.1, 40, .inl (fun _ => 0)))]) rfl ?_
  refine h_put (pc := 9) (ws' := [(h0, .inr (5, [.ref q1, .int 0, .long 0, .int 0])), (q1, .inl (cy.1, 40, .inl (fun _ => 0)))]) (ty := .array .int) 0 0 rfl rfl inX5 tyX5 tyX5_ok nmX5 (by decide) kf_X5_9 (Or.inr rfl) (by decide +kernel) rfl rfl (Nat.le_of_ble_eq_true rfl) rfl dX5_init_9 ?_
  refine h_aload_n (pc := 12) 0 dX5_init_12 rfl rfl ?_
  refine h_iconst (pc := 13) (0) dX5_init_13 (by decide) ?_
  refine h_put (pc := 14) (ws' := [(h0, .inr (5, [.ref q1, .int (0), .long 0, .int 0])), (q1, .inl (cy.1, 40, .inl (fun _ => 0)))]) (ty := .int) 0 1 rfl rfl inX5 tyX5 tyX5_ok nmX5 (by decide) kf_X5_15 (Or.inr rfl) (by decide +kernel) rfl rfl (Nat.le_of_ble_eq_true rfl) rfl dX5_init_14 ?_
  refine h_aload_n (pc := 17) 0 dX5_init_17 rfl rfl ?_
  refine h_lconst (pc := 18) (0) dX5_init_18 (by decide) ?_
  refine h_put (pc := 19) (ws' := [(h0, .inr (5, [.ref q1, .int (0), .long (0), .int 0])), (q1, .inl (cy.1, 40, .inl (fun _ => 0)))]) (ty := .long) 0 2 rfl rfl inX5 tyX5 tyX5_ok nmX5 (by decide) kf_X5_19 (Or.inr rfl) (by decide +kernel) rfl rfl (Nat.le_of_ble_eq_true rfl) rfl dX5_init_19 ?_
  refine h_aload_n (pc := 22) 0 dX5_init_22 rfl rfl ?_
  refine h_iconst (pc := 23) (0) dX5_init_23 (by decide) ?_
  refine h_put (pc := 24) (ws' := [(h0, .inr (5, [.ref q1, .int (0), .long (0), .int (0)])), (q1, .inl (cy.1, 40, .inl (fun _ => 0)))]) (ty := .int) 0 3 rfl rfl inX5 tyX5 tyX5_ok nmX5 (by decide) kf_X5_23 (Or.inr rfl) (by decide +kernel) rfl rfl (Nat.le_of_ble_eq_true rfl) rfl dX5_init_24 ?_
  exact h_ret (pc := 27) ⟨Nat.le_of_ble_eq_true rfl, Nat.le_of_ble_eq_true rfl⟩ ⟨q1, rfl⟩ dX5_init_27
abbrev rm_X6_init : Room := { frames := 1, cells := 2, slots := 512, locals := 20 }
set_option maxHeartbeats 4000000 in
set_option maxRecDepth 20000 in
theorem c_X6_init (l : Launch) (D : va_G) (cy : Cy) (h0 f0 : Nat) : MetA D cy l yX6_init cX6_init 2 rm_X6_init [.ref h0, .ref f0] [(h0, .inr (6, [.null, .null, .null]))] (fun w => ∃ q1 q2 : Nat, w = [(h0, .inr (6, [.ref f0, .ref q1, .ref q2])), (q1, .inl (cy.1, 256, .inl (fun _ => 0))), (q2, .inl (cy.2.1, 256, .inr (.inl (fun _ => 0))))]) := by
  refine MetA.of (lv := [(0, .ref h0), (1, .ref f0)]) (by decide) rfl (Nat.le_of_ble_eq_true rfl) rfl ?_
  refine h_aload_n (pc := 0) 0 dX6_init_0 rfl rfl ?_
  refine h_obj (pc := 1) ko_X6 ⟨by decide, Nat.le_of_ble_eq_true rfl⟩ dX6_init_1 ?_
  refine h_aload_n (pc := 4) 0 dX6_init_4 rfl rfl ?_
  refine h_aload_n (pc := 5) 1 dX6_init_5 rfl rfl ?_
  refine h_put (pc := 6) (ws' := [(h0, .inr (6, [.ref f0, .null, .null]))]) (ty := .object "TwinRuns$Asked") 0 0 rfl rfl inX6 tyX6 tyX6_ok nmX6 (by decide) kf_X6_9 (Or.inr rfl) (by decide +kernel) rfl rfl (Nat.le_of_ble_eq_true rfl) rfl dX6_init_6 ?_
  refine h_aload_n (pc := 9) 0 dX6_init_9 rfl rfl ?_
  refine h_sipush (pc := 10) (256) dX6_init_10 (by decide) ?_
  refine h_newa (pc := 13) 0 (256, .inl (fun _ => 0)) ka_int rfl rfl (fun _ _ h => h) (fun _ => rfl) (by decide) (by decide) (by decide) (Nat.le_of_ble_eq_true rfl) (Nat.le_of_ble_eq_true rfl) dX6_init_13 (fun q1 => ?_)
  refine h_eq (ws' := [(h0, .inr (6, [.ref f0, .null, .null])), (q1, .inl (cy.1, 256, .inl (fun _ => 0)))]) rfl ?_
  refine h_put (pc := 15) (ws' := [(h0, .inr (6, [.ref f0, .ref q1, .null])), (q1, .inl (cy.1, 256, .inl (fun _ => 0)))]) (ty := .array .int) 0 1 rfl rfl inX6 tyX6 tyX6_ok nmX6 (by decide) kf_X6_15 (Or.inr rfl) (by decide +kernel) rfl rfl (Nat.le_of_ble_eq_true rfl) rfl dX6_init_15 ?_
  refine h_aload_n (pc := 18) 0 dX6_init_18 rfl rfl ?_
  refine h_sipush (pc := 19) (256) dX6_init_19 (by decide) ?_
  refine h_newa (pc := 22) 1 (256, .inr (.inl (fun _ => 0))) ka_long rfl rfl (fun _ _ h => h) (fun _ => rfl) (by decide) (by decide) (by decide) (Nat.le_of_ble_eq_true rfl) (Nat.le_of_ble_eq_true rfl) dX6_init_22 (fun q2 => ?_)
  refine h_eq (ws' := [(h0, .inr (6, [.ref f0, .ref q1, .null])), (q1, .inl (cy.1, 256, .inl (fun _ => 0))), (q2, .inl (cy.2.1, 256, .inr (.inl (fun _ => 0))))]) rfl ?_
  refine h_put (pc := 24) (ws' := [(h0, .inr (6, [.ref f0, .ref q1, .ref q2])), (q1, .inl (cy.1, 256, .inl (fun _ => 0))), (q2, .inl (cy.2.1, 256, .inr (.inl (fun _ => 0))))]) (ty := .array .long) 0 2 rfl rfl inX6 tyX6 tyX6_ok nmX6 (by decide) kf_X6_19 (Or.inr rfl) (by decide +kernel) rfl rfl (Nat.le_of_ble_eq_true rfl) rfl dX6_init_24 ?_
  exact h_ret (pc := 27) ⟨Nat.le_of_ble_eq_true rfl, Nat.le_of_ble_eq_true rfl⟩ ⟨q1, q2, rfl⟩ dX6_init_27
abbrev rm_X2_init : Room := { frames := 1, cells := 2, slots := 43940, locals := 20 }
set_option maxHeartbeats 4000000 in
set_option maxRecDepth 20000 in
theorem c_X2_init (l : Launch) (D : va_G) (cy : Cy) (h0 : Nat) : MetA D cy l yX2_init cX2_init 1 rm_X2_init [.ref h0] [(h0, .inr (2, [.int 0, .null, .int 0, .null]))] (fun w => ∃ q1 q2 : Nat, w = [(h0, .inr (2, [.int (-6), .ref q1, .int (0), .ref q2])), (q1, .inl (cy.1, 43264, .inl (fun _ => 0))), (q2, .inl (cy.2.1, 676, .inr (.inl (fun _ => 0))))]) := by
  refine MetA.of (lv := [(0, .ref h0)]) (by decide) rfl (Nat.le_of_ble_eq_true rfl) rfl ?_
  refine h_aload_n (pc := 0) 0 dX2_init_0 rfl rfl ?_
  refine h_obj (pc := 1) ko_X2 ⟨by decide, Nat.le_of_ble_eq_true rfl⟩ dX2_init_1 ?_
  refine h_aload_n (pc := 4) 0 dX2_init_4 rfl rfl ?_
  refine h_bipush (pc := 5) (-6) dX2_init_5 (by decide) ?_
  refine h_put (pc := 7) (ws' := [(h0, .inr (2, [.int (-6), .null, .int 0, .null]))]) (ty := .int) 0 0 rfl rfl inX2 tyX2 tyX2_ok nmX2 (by decide) kf_X2_9 (Or.inr rfl) (by decide +kernel) rfl rfl (Nat.le_of_ble_eq_true rfl) rfl dX2_init_7 ?_
  refine h_aload_n (pc := 10) 0 dX2_init_10 rfl rfl ?_
  refine h_ldc (pc := 11) dX2_init_11 ki_X2_15 ?_
  refine h_newa (pc := 13) 0 (43264, .inl (fun _ => 0)) ka_int rfl rfl (fun _ _ h => h) (fun _ => rfl) (by decide) (by decide) (by decide) (Nat.le_of_ble_eq_true rfl) (Nat.le_of_ble_eq_true rfl) dX2_init_13 (fun q1 => ?_)
  refine h_eq (ws' := [(h0, .inr (2, [.int (-6), .null, .int 0, .null])), (q1, .inl (cy.1, 43264, .inl (fun _ => 0)))]) rfl ?_
  refine h_put (pc := 15) (ws' := [(h0, .inr (2, [.int (-6), .ref q1, .int 0, .null])), (q1, .inl (cy.1, 43264, .inl (fun _ => 0)))]) (ty := .array .int) 0 1 rfl rfl inX2 tyX2 tyX2_ok nmX2 (by decide) kf_X2_16 (Or.inr rfl) (by decide +kernel) rfl rfl (Nat.le_of_ble_eq_true rfl) rfl dX2_init_15 ?_
  refine h_aload_n (pc := 18) 0 dX2_init_18 rfl rfl ?_
  refine h_iconst (pc := 19) (0) dX2_init_19 (by decide) ?_
  refine h_put (pc := 20) (ws' := [(h0, .inr (2, [.int (-6), .ref q1, .int (0), .null])), (q1, .inl (cy.1, 43264, .inl (fun _ => 0)))]) (ty := .int) 0 2 rfl rfl inX2 tyX2 tyX2_ok nmX2 (by decide) kf_X2_20 (Or.inr rfl) (by decide +kernel) rfl rfl (Nat.le_of_ble_eq_true rfl) rfl dX2_init_20 ?_
  refine h_aload_n (pc := 23) 0 dX2_init_23 rfl rfl ?_
  refine h_sipush (pc := 24) (676) dX2_init_24 (by decide) ?_
  refine h_newa (pc := 27) 1 (676, .inr (.inl (fun _ => 0))) ka_long rfl rfl (fun _ _ h => h) (fun _ => rfl) (by decide) (by decide) (by decide) (Nat.le_of_ble_eq_true rfl) (Nat.le_of_ble_eq_true rfl) dX2_init_27 (fun q2 => ?_)
  refine h_eq (ws' := [(h0, .inr (2, [.int (-6), .ref q1, .int (0), .null])), (q1, .inl (cy.1, 43264, .inl (fun _ => 0))), (q2, .inl (cy.2.1, 676, .inr (.inl (fun _ => 0))))]) rfl ?_
  refine h_put (pc := 29) (ws' := [(h0, .inr (2, [.int (-6), .ref q1, .int (0), .ref q2])), (q1, .inl (cy.1, 43264, .inl (fun _ => 0))), (q2, .inl (cy.2.1, 676, .inr (.inl (fun _ => 0))))]) (ty := .array .long) 0 3 rfl rfl inX2 tyX2 tyX2_ok nmX2 (by decide) kf_X2_23 (Or.inr rfl) (by decide +kernel) rfl rfl (Nat.le_of_ble_eq_true rfl) rfl dX2_init_29 ?_
  exact h_ret (pc := 32) ⟨Nat.le_of_ble_eq_true rfl, Nat.le_of_ble_eq_true rfl⟩ ⟨q1, q2, rfl⟩ dX2_init_32
abbrev rm_X4_init : Room := { frames := 1, cells := 12, slots := 8240, locals := 20 }
set_option maxHeartbeats 4000000 in
set_option maxRecDepth 20000 in
theorem c_X4_init (l : Launch) (D : va_G) (cy : Cy) (h0 f0 : Nat) : MetA D cy l yX4_init cX4_init 2 rm_X4_init [.ref h0, .ref f0] [(h0, .inr (4, [.null, .null, .null, .null, .null, .int 0, .int 0, .int 0, .null, .null, .null, .null, .null, .null, .null, .null]))] (fun w => ∃ q1 q2 q3 q4 q5 q6 q7 q8 q9 q10 q11 q12 : Nat, w = [(h0, .inr (4, [.ref f0, .ref q1, .ref q2, .ref q3, .ref q4, .int (0), .int (0), .int (1), .ref q5, .ref q6, .ref q7, .ref q8, .ref q9, .ref q10, .ref q11, .ref q12])), (q1, .inl (cy.1, 12, .inl (fun _ => 0))), (q2, .inl (cy.1, 12, .inl (fun _ => 0))), (q3, .inl (cy.1, 12, .inl (fun _ => 0))), (q4, .inl (cy.1, 12, .inl (fun _ => 0))), (q5, .inl (cy.1, 256, .inl (fun _ => 0))), (q6, .inl (cy.1, 6400, .inl (fun _ => 0))), (q7, .inl (cy.1, 256, .inl (fun _ => 0))), (q8, .inl (cy.1, 256, .inl (fun _ => 0))), (q9, .inl (cy.1, 256, .inl (fun _ => 0))), (q10, .inl (cy.1, 256, .inl (fun _ => 0))), (q11, .inl (cy.1, 256, .inl (fun _ => 0))), (q12, .inl (cy.2.1, 256, .inr (.inl (fun _ => 0))))]) := by
  refine MetA.of (lv := [(0, .ref h0), (1, .ref f0)]) (by decide) rfl (Nat.le_of_ble_eq_true rfl) rfl ?_
  refine h_aload_n (pc := 0) 0 dX4_init_0 rfl rfl ?_
  refine h_obj (pc := 1) ko_X4 ⟨by decide, Nat.le_of_ble_eq_true rfl⟩ dX4_init_1 ?_
  refine h_aload_n (pc := 4) 0 dX4_init_4 rfl rfl ?_
  refine h_aload_n (pc := 5) 1 dX4_init_5 rfl rfl ?_
  refine h_put (pc := 6) (ws' := [(h0, .inr (4, [.ref f0, .null, .null, .null, .null, .int 0, .int 0, .int 0, .null, .null, .null, .null, .null, .null, .null, .null]))]) (ty := .object "TwinRuns$Forms") 0 0 rfl rfl inX4 tyX4 tyX4_ok nmX4 (by decide) kf_X4_9 (Or.inr rfl) (by decide +kernel) rfl rfl (Nat.le_of_ble_eq_true rfl) rfl dX4_init_6 ?_
  refine h_aload_n (pc := 9) 0 dX4_init_9 rfl rfl ?_
  refine h_bipush (pc := 10) (12) dX4_init_10 (by decide) ?_
  refine h_newa (pc := 12) 0 (12, .inl (fun _ => 0)) ka_int rfl rfl (fun _ _ h => h) (fun _ => rfl) (by decide) (by decide) (by decide) (Nat.le_of_ble_eq_true rfl) (Nat.le_of_ble_eq_true rfl) dX4_init_12 (fun q1 => ?_)
  refine h_eq (ws' := [(h0, .inr (4, [.ref f0, .null, .null, .null, .null, .int 0, .int 0, .int 0, .null, .null, .null, .null, .null, .null, .null, .null])), (q1, .inl (cy.1, 12, .inl (fun _ => 0)))]) rfl ?_
  refine h_put (pc := 14) (ws' := [(h0, .inr (4, [.ref f0, .ref q1, .null, .null, .null, .int 0, .int 0, .int 0, .null, .null, .null, .null, .null, .null, .null, .null])), (q1, .inl (cy.1, 12, .inl (fun _ => 0)))]) (ty := .array .int) 0 1 rfl rfl inX4 tyX4 tyX4_ok nmX4 (by decide) kf_X4_15 (Or.inr rfl) (by decide +kernel) rfl rfl (Nat.le_of_ble_eq_true rfl) rfl dX4_init_14 ?_
  refine h_aload_n (pc := 17) 0 dX4_init_17 rfl rfl ?_
  refine h_bipush (pc := 18) (12) dX4_init_18 (by decide) ?_
  refine h_newa (pc := 20) 0 (12, .inl (fun _ => 0)) ka_int rfl rfl (fun _ _ h => h) (fun _ => rfl) (by decide) (by decide) (by decide) (Nat.le_of_ble_eq_true rfl) (Nat.le_of_ble_eq_true rfl) dX4_init_20 (fun q2 => ?_)
  refine h_eq (ws' := [(h0, .inr (4, [.ref f0, .ref q1, .null, .null, .null, .int 0, .int 0, .int 0, .null, .null, .null, .null, .null, .null, .null, .null])), (q1, .inl (cy.1, 12, .inl (fun _ => 0))), (q2, .inl (cy.1, 12, .inl (fun _ => 0)))]) rfl ?_
  refine h_put (pc := 22) (ws' := [(h0, .inr (4, [.ref f0, .ref q1, .ref q2, .null, .null, .int 0, .int 0, .int 0, .null, .null, .null, .null, .null, .null, .null, .null])), (q1, .inl (cy.1, 12, .inl (fun _ => 0))), (q2, .inl (cy.1, 12, .inl (fun _ => 0)))]) (ty := .array .int) 0 2 rfl rfl inX4 tyX4 tyX4_ok nmX4 (by decide) kf_X4_19 (Or.inr rfl) (by decide +kernel) rfl rfl (Nat.le_of_ble_eq_true rfl) rfl dX4_init_22 ?_
  refine h_aload_n (pc := 25) 0 dX4_init_25 rfl rfl ?_
  refine h_bipush (pc := 26) (12) dX4_init_26 (by decide) ?_
  refine h_newa (pc := 28) 0 (12, .inl (fun _ => 0)) ka_int rfl rfl (fun _ _ h => h) (fun _ => rfl) (by decide) (by decide) (by decide) (Nat.le_of_ble_eq_true rfl) (Nat.le_of_ble_eq_true rfl) dX4_init_28 (fun q3 => ?_)
  refine h_eq (ws' := [(h0, .inr (4, [.ref f0, .ref q1, .ref q2, .null, .null, .int 0, .int 0, .int 0, .null, .null, .null, .null, .null, .null, .null, .null])), (q1, .inl (cy.1, 12, .inl (fun _ => 0))), (q2, .inl (cy.1, 12, .inl (fun _ => 0))), (q3, .inl (cy.1, 12, .inl (fun _ => 0)))]) rfl ?_
  refine h_put (pc := 30) (ws' := [(h0, .inr (4, [.ref f0, .ref q1, .ref q2, .ref q3, .null, .int 0, .int 0, .int 0, .null, .null, .null, .null, .null, .null, .null, .null])), (q1, .inl (cy.1, 12, .inl (fun _ => 0))), (q2, .inl (cy.1, 12, .inl (fun _ => 0))), (q3, .inl (cy.1, 12, .inl (fun _ => 0)))]) (ty := .array .int) 0 3 rfl rfl inX4 tyX4 tyX4_ok nmX4 (by decide) kf_X4_22 (Or.inr rfl) (by decide +kernel) rfl rfl (Nat.le_of_ble_eq_true rfl) rfl dX4_init_30 ?_
  refine h_aload_n (pc := 33) 0 dX4_init_33 rfl rfl ?_
  refine h_bipush (pc := 34) (12) dX4_init_34 (by decide) ?_
  refine h_newa (pc := 36) 0 (12, .inl (fun _ => 0)) ka_int rfl rfl (fun _ _ h => h) (fun _ => rfl) (by decide) (by decide) (by decide) (Nat.le_of_ble_eq_true rfl) (Nat.le_of_ble_eq_true rfl) dX4_init_36 (fun q4 => ?_)
  refine h_eq (ws' := [(h0, .inr (4, [.ref f0, .ref q1, .ref q2, .ref q3, .null, .int 0, .int 0, .int 0, .null, .null, .null, .null, .null, .null, .null, .null])), (q1, .inl (cy.1, 12, .inl (fun _ => 0))), (q2, .inl (cy.1, 12, .inl (fun _ => 0))), (q3, .inl (cy.1, 12, .inl (fun _ => 0))), (q4, .inl (cy.1, 12, .inl (fun _ => 0)))]) rfl ?_
  refine h_put (pc := 38) (ws' := [(h0, .inr (4, [.ref f0, .ref q1, .ref q2, .ref q3, .ref q4, .int 0, .int 0, .int 0, .null, .null, .null, .null, .null, .null, .null, .null])), (q1, .inl (cy.1, 12, .inl (fun _ => 0))), (q2, .inl (cy.1, 12, .inl (fun _ => 0))), (q3, .inl (cy.1, 12, .inl (fun _ => 0))), (q4, .inl (cy.1, 12, .inl (fun _ => 0)))]) (ty := .array .int) 0 4 rfl rfl inX4 tyX4 tyX4_ok nmX4 (by decide) kf_X4_25 (Or.inr rfl) (by decide +kernel) rfl rfl (Nat.le_of_ble_eq_true rfl) rfl dX4_init_38 ?_
  refine h_aload_n (pc := 41) 0 dX4_init_41 rfl rfl ?_
  refine h_iconst (pc := 42) (0) dX4_init_42 (by decide) ?_
  refine h_put (pc := 43) (ws' := [(h0, .inr (4, [.ref f0, .ref q1, .ref q2, .ref q3, .ref q4, .int (0), .int 0, .int 0, .null, .null, .null, .null, .null, .null, .null, .null])), (q1, .inl (cy.1, 12, .inl (fun _ => 0))), (q2, .inl (cy.1, 12, .inl (fun _ => 0))), (q3, .inl (cy.1, 12, .inl (fun _ => 0))), (q4, .inl (cy.1, 12, .inl (fun _ => 0)))]) (ty := .int) 0 5 rfl rfl inX4 tyX4 tyX4_ok nmX4 (by decide) kf_X4_28 (Or.inr rfl) (by decide +kernel) rfl rfl (Nat.le_of_ble_eq_true rfl) rfl dX4_init_43 ?_
  refine h_aload_n (pc := 46) 0 dX4_init_46 rfl rfl ?_
  refine h_iconst (pc := 47) (0) dX4_init_47 (by decide) ?_
  refine h_put (pc := 48) (ws' := [(h0, .inr (4, [.ref f0, .ref q1, .ref q2, .ref q3, .ref q4, .int (0), .int (0), .int 0, .null, .null, .null, .null, .null, .null, .null, .null])), (q1, .inl (cy.1, 12, .inl (fun _ => 0))), (q2, .inl (cy.1, 12, .inl (fun _ => 0))), (q3, .inl (cy.1, 12, .inl (fun _ => 0))), (q4, .inl (cy.1, 12, .inl (fun _ => 0)))]) (ty := .int) 0 6 rfl rfl inX4 tyX4 tyX4_ok nmX4 (by decide) kf_X4_32 (Or.inr rfl) (by decide +kernel) rfl rfl (Nat.le_of_ble_eq_true rfl) rfl dX4_init_48 ?_
  refine h_aload_n (pc := 51) 0 dX4_init_51 rfl rfl ?_
  refine h_iconst (pc := 52) (1) dX4_init_52 (by decide) ?_
  refine h_put (pc := 53) (ws' := [(h0, .inr (4, [.ref f0, .ref q1, .ref q2, .ref q3, .ref q4, .int (0), .int (0), .int (1), .null, .null, .null, .null, .null, .null, .null, .null])), (q1, .inl (cy.1, 12, .inl (fun _ => 0))), (q2, .inl (cy.1, 12, .inl (fun _ => 0))), (q3, .inl (cy.1, 12, .inl (fun _ => 0))), (q4, .inl (cy.1, 12, .inl (fun _ => 0)))]) (ty := .int) 0 7 rfl rfl inX4 tyX4 tyX4_ok nmX4 (by decide) kf_X4_35 (Or.inr rfl) (by decide +kernel) rfl rfl (Nat.le_of_ble_eq_true rfl) rfl dX4_init_53 ?_
  refine h_aload_n (pc := 56) 0 dX4_init_56 rfl rfl ?_
  refine h_sipush (pc := 57) (256) dX4_init_57 (by decide) ?_
  refine h_newa (pc := 60) 0 (256, .inl (fun _ => 0)) ka_int rfl rfl (fun _ _ h => h) (fun _ => rfl) (by decide) (by decide) (by decide) (Nat.le_of_ble_eq_true rfl) (Nat.le_of_ble_eq_true rfl) dX4_init_60 (fun q5 => ?_)
  refine h_eq (ws' := [(h0, .inr (4, [.ref f0, .ref q1, .ref q2, .ref q3, .ref q4, .int (0), .int (0), .int (1), .null, .null, .null, .null, .null, .null, .null, .null])), (q1, .inl (cy.1, 12, .inl (fun _ => 0))), (q2, .inl (cy.1, 12, .inl (fun _ => 0))), (q3, .inl (cy.1, 12, .inl (fun _ => 0))), (q4, .inl (cy.1, 12, .inl (fun _ => 0))), (q5, .inl (cy.1, 256, .inl (fun _ => 0)))]) rfl ?_
  refine h_put (pc := 62) (ws' := [(h0, .inr (4, [.ref f0, .ref q1, .ref q2, .ref q3, .ref q4, .int (0), .int (0), .int (1), .ref q5, .null, .null, .null, .null, .null, .null, .null])), (q1, .inl (cy.1, 12, .inl (fun _ => 0))), (q2, .inl (cy.1, 12, .inl (fun _ => 0))), (q3, .inl (cy.1, 12, .inl (fun _ => 0))), (q4, .inl (cy.1, 12, .inl (fun _ => 0))), (q5, .inl (cy.1, 256, .inl (fun _ => 0)))]) (ty := .array .int) 0 8 rfl rfl inX4 tyX4 tyX4_ok nmX4 (by decide) kf_X4_38 (Or.inr rfl) (by decide +kernel) rfl rfl (Nat.le_of_ble_eq_true rfl) rfl dX4_init_62 ?_
  refine h_aload_n (pc := 65) 0 dX4_init_65 rfl rfl ?_
  refine h_sipush (pc := 66) (6400) dX4_init_66 (by decide) ?_
  refine h_newa (pc := 69) 0 (6400, .inl (fun _ => 0)) ka_int rfl rfl (fun _ _ h => h) (fun _ => rfl) (by decide) (by decide) (by decide) (Nat.le_of_ble_eq_true rfl) (Nat.le_of_ble_eq_true rfl) dX4_init_69 (fun q6 => ?_)
  refine h_eq (ws' := [(h0, .inr (4, [.ref f0, .ref q1, .ref q2, .ref q3, .ref q4, .int (0), .int (0), .int (1), .ref q5, .null, .null, .null, .null, .null, .null, .null])), (q1, .inl (cy.1, 12, .inl (fun _ => 0))), (q2, .inl (cy.1, 12, .inl (fun _ => 0))), (q3, .inl (cy.1, 12, .inl (fun _ => 0))), (q4, .inl (cy.1, 12, .inl (fun _ => 0))), (q5, .inl (cy.1, 256, .inl (fun _ => 0))), (q6, .inl (cy.1, 6400, .inl (fun _ => 0)))]) rfl ?_
  refine h_put (pc := 71) (ws' := [(h0, .inr (4, [.ref f0, .ref q1, .ref q2, .ref q3, .ref q4, .int (0), .int (0), .int (1), .ref q5, .ref q6, .null, .null, .null, .null, .null, .null])), (q1, .inl (cy.1, 12, .inl (fun _ => 0))), (q2, .inl (cy.1, 12, .inl (fun _ => 0))), (q3, .inl (cy.1, 12, .inl (fun _ => 0))), (q4, .inl (cy.1, 12, .inl (fun _ => 0))), (q5, .inl (cy.1, 256, .inl (fun _ => 0))), (q6, .inl (cy.1, 6400, .inl (fun _ => 0)))]) (ty := .array .int) 0 9 rfl rfl inX4 tyX4 tyX4_ok nmX4 (by decide) kf_X4_41 (Or.inr rfl) (by decide +kernel) rfl rfl (Nat.le_of_ble_eq_true rfl) rfl dX4_init_71 ?_
  refine h_aload_n (pc := 74) 0 dX4_init_74 rfl rfl ?_
  refine h_sipush (pc := 75) (256) dX4_init_75 (by decide) ?_
  refine h_newa (pc := 78) 0 (256, .inl (fun _ => 0)) ka_int rfl rfl (fun _ _ h => h) (fun _ => rfl) (by decide) (by decide) (by decide) (Nat.le_of_ble_eq_true rfl) (Nat.le_of_ble_eq_true rfl) dX4_init_78 (fun q7 => ?_)
  refine h_eq (ws' := [(h0, .inr (4, [.ref f0, .ref q1, .ref q2, .ref q3, .ref q4, .int (0), .int (0), .int (1), .ref q5, .ref q6, .null, .null, .null, .null, .null, .null])), (q1, .inl (cy.1, 12, .inl (fun _ => 0))), (q2, .inl (cy.1, 12, .inl (fun _ => 0))), (q3, .inl (cy.1, 12, .inl (fun _ => 0))), (q4, .inl (cy.1, 12, .inl (fun _ => 0))), (q5, .inl (cy.1, 256, .inl (fun _ => 0))), (q6, .inl (cy.1, 6400, .inl (fun _ => 0))), (q7, .inl (cy.1, 256, .inl (fun _ => 0)))]) rfl ?_
  refine h_put (pc := 80) (ws' := [(h0, .inr (4, [.ref f0, .ref q1, .ref q2, .ref q3, .ref q4, .int (0), .int (0), .int (1), .ref q5, .ref q6, .ref q7, .null, .null, .null, .null, .null])), (q1, .inl (cy.1, 12, .inl (fun _ => 0))), (q2, .inl (cy.1, 12, .inl (fun _ => 0))), (q3, .inl (cy.1, 12, .inl (fun _ => 0))), (q4, .inl (cy.1, 12, .inl (fun _ => 0))), (q5, .inl (cy.1, 256, .inl (fun _ => 0))), (q6, .inl (cy.1, 6400, .inl (fun _ => 0))), (q7, .inl (cy.1, 256, .inl (fun _ => 0)))]) (ty := .array .int) 0 10 rfl rfl inX4 tyX4 tyX4_ok nmX4 (by decide) kf_X4_44 (Or.inr rfl) (by decide +kernel) rfl rfl (Nat.le_of_ble_eq_true rfl) rfl dX4_init_80 ?_
  refine h_aload_n (pc := 83) 0 dX4_init_83 rfl rfl ?_
  refine h_sipush (pc := 84) (256) dX4_init_84 (by decide) ?_
  refine h_newa (pc := 87) 0 (256, .inl (fun _ => 0)) ka_int rfl rfl (fun _ _ h => h) (fun _ => rfl) (by decide) (by decide) (by decide) (Nat.le_of_ble_eq_true rfl) (Nat.le_of_ble_eq_true rfl) dX4_init_87 (fun q8 => ?_)
  refine h_eq (ws' := [(h0, .inr (4, [.ref f0, .ref q1, .ref q2, .ref q3, .ref q4, .int (0), .int (0), .int (1), .ref q5, .ref q6, .ref q7, .null, .null, .null, .null, .null])), (q1, .inl (cy.1, 12, .inl (fun _ => 0))), (q2, .inl (cy.1, 12, .inl (fun _ => 0))), (q3, .inl (cy.1, 12, .inl (fun _ => 0))), (q4, .inl (cy.1, 12, .inl (fun _ => 0))), (q5, .inl (cy.1, 256, .inl (fun _ => 0))), (q6, .inl (cy.1, 6400, .inl (fun _ => 0))), (q7, .inl (cy.1, 256, .inl (fun _ => 0))), (q8, .inl (cy.1, 256, .inl (fun _ => 0)))]) rfl ?_
  refine h_put (pc := 89) (ws' := [(h0, .inr (4, [.ref f0, .ref q1, .ref q2, .ref q3, .ref q4, .int (0), .int (0), .int (1), .ref q5, .ref q6, .ref q7, .ref q8, .null, .null, .null, .null])), (q1, .inl (cy.1, 12, .inl (fun _ => 0))), (q2, .inl (cy.1, 12, .inl (fun _ => 0))), (q3, .inl (cy.1, 12, .inl (fun _ => 0))), (q4, .inl (cy.1, 12, .inl (fun _ => 0))), (q5, .inl (cy.1, 256, .inl (fun _ => 0))), (q6, .inl (cy.1, 6400, .inl (fun _ => 0))), (q7, .inl (cy.1, 256, .inl (fun _ => 0))), (q8, .inl (cy.1, 256, .inl (fun _ => 0)))]) (ty := .array .int) 0 11 rfl rfl inX4 tyX4 tyX4_ok nmX4 (by decide) kf_X4_47 (Or.inr rfl) (by decide +kernel) rfl rfl (Nat.le_of_ble_eq_true rfl) rfl dX4_init_89 ?_
  refine h_aload_n (pc := 92) 0 dX4_init_92 rfl rfl ?_
  refine h_sipush (pc := 93) (256) dX4_init_93 (by decide) ?_
  refine h_newa (pc := 96) 0 (256, .inl (fun _ => 0)) ka_int rfl rfl (fun _ _ h => h) (fun _ => rfl) (by decide) (by decide) (by decide) (Nat.le_of_ble_eq_true rfl) (Nat.le_of_ble_eq_true rfl) dX4_init_96 (fun q9 => ?_)
  refine h_eq (ws' := [(h0, .inr (4, [.ref f0, .ref q1, .ref q2, .ref q3, .ref q4, .int (0), .int (0), .int (1), .ref q5, .ref q6, .ref q7, .ref q8, .null, .null, .null, .null])), (q1, .inl (cy.1, 12, .inl (fun _ => 0))), (q2, .inl (cy.1, 12, .inl (fun _ => 0))), (q3, .inl (cy.1, 12, .inl (fun _ => 0))), (q4, .inl (cy.1, 12, .inl (fun _ => 0))), (q5, .inl (cy.1, 256, .inl (fun _ => 0))), (q6, .inl (cy.1, 6400, .inl (fun _ => 0))), (q7, .inl (cy.1, 256, .inl (fun _ => 0))), (q8, .inl (cy.1, 256, .inl (fun _ => 0))), (q9, .inl (cy.1, 256, .inl (fun _ => 0)))]) rfl ?_
  refine h_put (pc := 98) (ws' := [(h0, .inr (4, [.ref f0, .ref q1, .ref q2, .ref q3, .ref q4, .int (0), .int (0), .int (1), .ref q5, .ref q6, .ref q7, .ref q8, .ref q9, .null, .null, .null])), (q1, .inl (cy.1, 12, .inl (fun _ => 0))), (q2, .inl (cy.1, 12, .inl (fun _ => 0))), (q3, .inl (cy.1, 12, .inl (fun _ => 0))), (q4, .inl (cy.1, 12, .inl (fun _ => 0))), (q5, .inl (cy.1, 256, .inl (fun _ => 0))), (q6, .inl (cy.1, 6400, .inl (fun _ => 0))), (q7, .inl (cy.1, 256, .inl (fun _ => 0))), (q8, .inl (cy.1, 256, .inl (fun _ => 0))), (q9, .inl (cy.1, 256, .inl (fun _ => 0)))]) (ty := .array .int) 0 12 rfl rfl inX4 tyX4 tyX4_ok nmX4 (by decide) kf_X4_50 (Or.inr rfl) (by decide +kernel) rfl rfl (Nat.le_of_ble_eq_true rfl) rfl dX4_init_98 ?_
  refine h_aload_n (pc := 101) 0 dX4_init_101 rfl rfl ?_
  refine h_sipush (pc := 102) (256) dX4_init_102 (by decide) ?_
  refine h_newa (pc := 105) 0 (256, .inl (fun _ => 0)) ka_int rfl rfl (fun _ _ h => h) (fun _ => rfl) (by decide) (by decide) (by decide) (Nat.le_of_ble_eq_true rfl) (Nat.le_of_ble_eq_true rfl) dX4_init_105 (fun q10 => ?_)
  refine h_eq (ws' := [(h0, .inr (4, [.ref f0, .ref q1, .ref q2, .ref q3, .ref q4, .int (0), .int (0), .int (1), .ref q5, .ref q6, .ref q7, .ref q8, .ref q9, .null, .null, .null])), (q1, .inl (cy.1, 12, .inl (fun _ => 0))), (q2, .inl (cy.1, 12, .inl (fun _ => 0))), (q3, .inl (cy.1, 12, .inl (fun _ => 0))), (q4, .inl (cy.1, 12, .inl (fun _ => 0))), (q5, .inl (cy.1, 256, .inl (fun _ => 0))), (q6, .inl (cy.1, 6400, .inl (fun _ => 0))), (q7, .inl (cy.1, 256, .inl (fun _ => 0))), (q8, .inl (cy.1, 256, .inl (fun _ => 0))), (q9, .inl (cy.1, 256, .inl (fun _ => 0))), (q10, .inl (cy.1, 256, .inl (fun _ => 0)))]) rfl ?_
  refine h_put (pc := 107) (ws' := [(h0, .inr (4, [.ref f0, .ref q1, .ref q2, .ref q3, .ref q4, .int (0), .int (0), .int (1), .ref q5, .ref q6, .ref q7, .ref q8, .ref q9, .ref q10, .null, .null])), (q1, .inl (cy.1, 12, .inl (fun _ => 0))), (q2, .inl (cy.1, 12, .inl (fun _ => 0))), (q3, .inl (cy.1, 12, .inl (fun _ => 0))), (q4, .inl (cy.1, 12, .inl (fun _ => 0))), (q5, .inl (cy.1, 256, .inl (fun _ => 0))), (q6, .inl (cy.1, 6400, .inl (fun _ => 0))), (q7, .inl (cy.1, 256, .inl (fun _ => 0))), (q8, .inl (cy.1, 256, .inl (fun _ => 0))), (q9, .inl (cy.1, 256, .inl (fun _ => 0))), (q10, .inl (cy.1, 256, .inl (fun _ => 0)))]) (ty := .array .int) 0 13 rfl rfl inX4 tyX4 tyX4_ok nmX4 (by decide) kf_X4_53 (Or.inr rfl) (by decide +kernel) rfl rfl (Nat.le_of_ble_eq_true rfl) rfl dX4_init_107 ?_
  refine h_aload_n (pc := 110) 0 dX4_init_110 rfl rfl ?_
  refine h_sipush (pc := 111) (256) dX4_init_111 (by decide) ?_
  refine h_newa (pc := 114) 0 (256, .inl (fun _ => 0)) ka_int rfl rfl (fun _ _ h => h) (fun _ => rfl) (by decide) (by decide) (by decide) (Nat.le_of_ble_eq_true rfl) (Nat.le_of_ble_eq_true rfl) dX4_init_114 (fun q11 => ?_)
  refine h_eq (ws' := [(h0, .inr (4, [.ref f0, .ref q1, .ref q2, .ref q3, .ref q4, .int (0), .int (0), .int (1), .ref q5, .ref q6, .ref q7, .ref q8, .ref q9, .ref q10, .null, .null])), (q1, .inl (cy.1, 12, .inl (fun _ => 0))), (q2, .inl (cy.1, 12, .inl (fun _ => 0))), (q3, .inl (cy.1, 12, .inl (fun _ => 0))), (q4, .inl (cy.1, 12, .inl (fun _ => 0))), (q5, .inl (cy.1, 256, .inl (fun _ => 0))), (q6, .inl (cy.1, 6400, .inl (fun _ => 0))), (q7, .inl (cy.1, 256, .inl (fun _ => 0))), (q8, .inl (cy.1, 256, .inl (fun _ => 0))), (q9, .inl (cy.1, 256, .inl (fun _ => 0))), (q10, .inl (cy.1, 256, .inl (fun _ => 0))), (q11, .inl (cy.1, 256, .inl (fun _ => 0)))]) rfl ?_
  refine h_put (pc := 116) (ws' := [(h0, .inr (4, [.ref f0, .ref q1, .ref q2, .ref q3, .ref q4, .int (0), .int (0), .int (1), .ref q5, .ref q6, .ref q7, .ref q8, .ref q9, .ref q10, .ref q11, .null])), (q1, .inl (cy.1, 12, .inl (fun _ => 0))), (q2, .inl (cy.1, 12, .inl (fun _ => 0))), (q3, .inl (cy.1, 12, .inl (fun _ => 0))), (q4, .inl (cy.1, 12, .inl (fun _ => 0))), (q5, .inl (cy.1, 256, .inl (fun _ => 0))), (q6, .inl (cy.1, 6400, .inl (fun _ => 0))), (q7, .inl (cy.1, 256, .inl (fun _ => 0))), (q8, .inl (cy.1, 256, .inl (fun _ => 0))), (q9, .inl (cy.1, 256, .inl (fun _ => 0))), (q10, .inl (cy.1, 256, .inl (fun _ => 0))), (q11, .inl (cy.1, 256, .inl (fun _ => 0)))]) (ty := .array .int) 0 14 rfl rfl inX4 tyX4 tyX4_ok nmX4 (by decide) kf_X4_56 (Or.inr rfl) (by decide +kernel) rfl rfl (Nat.le_of_ble_eq_true rfl) rfl dX4_init_116 ?_
  refine h_aload_n (pc := 119) 0 dX4_init_119 rfl rfl ?_
  refine h_sipush (pc := 120) (256) dX4_init_120 (by decide) ?_
  refine h_newa (pc := 123) 1 (256, .inr (.inl (fun _ => 0))) ka_long rfl rfl (fun _ _ h => h) (fun _ => rfl) (by decide) (by decide) (by decide) (Nat.le_of_ble_eq_true rfl) (Nat.le_of_ble_eq_true rfl) dX4_init_123 (fun q12 => ?_)
  refine h_eq (ws' := [(h0, .inr (4, [.ref f0, .ref q1, .ref q2, .ref q3, .ref q4, .int (0), .int (0), .int (1), .ref q5, .ref q6, .ref q7, .ref q8, .ref q9, .ref q10, .ref q11, .null])), (q1, .inl (cy.1, 12, .inl (fun _ => 0))), (q2, .inl (cy.1, 12, .inl (fun _ => 0))), (q3, .inl (cy.1, 12, .inl (fun _ => 0))), (q4, .inl (cy.1, 12, .inl (fun _ => 0))), (q5, .inl (cy.1, 256, .inl (fun _ => 0))), (q6, .inl (cy.1, 6400, .inl (fun _ => 0))), (q7, .inl (cy.1, 256, .inl (fun _ => 0))), (q8, .inl (cy.1, 256, .inl (fun _ => 0))), (q9, .inl (cy.1, 256, .inl (fun _ => 0))), (q10, .inl (cy.1, 256, .inl (fun _ => 0))), (q11, .inl (cy.1, 256, .inl (fun _ => 0))), (q12, .inl (cy.2.1, 256, .inr (.inl (fun _ => 0))))]) rfl ?_
  refine h_put (pc := 125) (ws' := [(h0, .inr (4, [.ref f0, .ref q1, .ref q2, .ref q3, .ref q4, .int (0), .int (0), .int (1), .ref q5, .ref q6, .ref q7, .ref q8, .ref q9, .ref q10, .ref q11, .ref q12])), (q1, .inl (cy.1, 12, .inl (fun _ => 0))), (q2, .inl (cy.1, 12, .inl (fun _ => 0))), (q3, .inl (cy.1, 12, .inl (fun _ => 0))), (q4, .inl (cy.1, 12, .inl (fun _ => 0))), (q5, .inl (cy.1, 256, .inl (fun _ => 0))), (q6, .inl (cy.1, 6400, .inl (fun _ => 0))), (q7, .inl (cy.1, 256, .inl (fun _ => 0))), (q8, .inl (cy.1, 256, .inl (fun _ => 0))), (q9, .inl (cy.1, 256, .inl (fun _ => 0))), (q10, .inl (cy.1, 256, .inl (fun _ => 0))), (q11, .inl (cy.1, 256, .inl (fun _ => 0))), (q12, .inl (cy.2.1, 256, .inr (.inl (fun _ => 0))))]) (ty := .array .long) 0 15 rfl rfl inX4 tyX4 tyX4_ok nmX4 (by decide) kf_X4_59 (Or.inr rfl) (by decide +kernel) rfl rfl (Nat.le_of_ble_eq_true rfl) rfl dX4_init_125 ?_
  exact h_ret (pc := 128) ⟨Nat.le_of_ble_eq_true rfl, Nat.le_of_ble_eq_true rfl⟩ ⟨q1, q2, q3, q4, q5, q6, q7, q8, q9, q10, q11, q12, rfl⟩ dX4_init_128
