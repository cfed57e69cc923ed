def f_X8_forget (σ : St) : Option (St) := nm (stI σ 72 1 (-6 : Int32)) fun s1 => nm (stI s1 76 1 (-6 : Int32)) fun s2 => nm (stI s2 84 0 (-6 : Int32)) fun s3 => some s3
abbrev rm_X8_forget : Room := { frames := 0, cells := 0, slots := 0, locals := 0 }
set_option maxHeartbeats 4000000 in
set_option maxRecDepth 20000 in
theorem m_X8_forget (l : Launch) (D : va_G) (cy : Cy) (q : Nat → Nat) (σ : St)  : ∀ res, f_X8_forget σ = some res → MetX (vX D cy q) l yX8_forget cX8_forget 1 none rm_X8_forget [.ref (q 87)] σ (none, res) := by
  let fin_ : St → Option Value × St := fun r => (none, r)
  have hro : ∀ (z : St) (res : St), some z = some res → fin_ res = fin_ z := fun z res h => by cases h; rfl
  refine MetX.of1 (fin := fin_) (lv := [(0, .ref (q 87))]) (by decide) (Nat.le_of_ble_eq_true rfl) rfl ?_
  unfold f_X8_forget
  refine g_aload_n (pc := 0) 0 dX8_forget_0 rfl rfl ?_
  refine gf_8_pairs (pc := 1) kf_X8_48 dX8_forget_1 ?_
  refine g_bipush (pc := 4) (-6) dX8_forget_4 (by decide) ?_
  refine gp_3_key (pc := 6) kf_X8_157 dX8_forget_6 (fun s1 => ?_)
  refine g_aload_n (pc := 9) 0 dX8_forget_9 rfl rfl ?_
  refine gf_8_walker (pc := 10) kf_X8_62 dX8_forget_10 ?_
  refine g_bipush (pc := 13) (-6) dX8_forget_13 (by decide) ?_
  refine gp_7_key (pc := 15) kf_X8_269 dX8_forget_15 (fun s2 => ?_)
  refine g_aload_n (pc := 18) 0 dX8_forget_18 rfl rfl ?_
  refine gf_8_meeting (pc := 19) kf_X8_69 dX8_forget_19 ?_
  refine g_bipush (pc := 22) (-6) dX8_forget_22 (by decide) ?_
  refine gp_2_key (pc := 24) kf_X8_255 dX8_forget_24 (fun s3 => ?_)
  exact g_vret (pc := 27) (hro _) rfl dX8_forget_27
def f_X8_line (program : Int32) (act : Int32) (a : Int32) (b : Int32) (c : Int32) (σ : St) : Option (Int32 × St) := (f_X8_isProgram program).bind fun r1 => (if r1 = (0 : Int32) then some ((-1 : Int32), σ) else (f_X8_isAct act a b c).bind fun r2 => (if r2 = (0 : Int32) then some ((-2 : Int32), σ) else chk (inb program 4) (nm (4 + 13 * program.toNatClampNeg) fun k1 => (if (σ.1 k1 5) < (12 : Int32) then nm (σ.1 k1 5) fun x1 => nm (stI σ k1 5 (x1 + (1 : Int32))) fun s1 => (f_X4_put k1 x1 act a b c s1).bind fun s2 => (f_X8_forget s2).bind fun s3 => some (x1, s3) else some ((-4 : Int32), σ)))))
abbrev rm_X8_line : Room := { frames := 2, cells := 0, slots := 0, locals := 44 }
set_option maxHeartbeats 4000000 in
set_option maxRecDepth 20000 in
theorem m_X8_line (l : Launch) (D : va_G) (cy : Cy) (q : Nat → Nat) (σ : St) (program : Int32) (act : Int32) (a : Int32) (b : Int32) (c : Int32)  : ∀ res, f_X8_line program act a b c σ = some res → MetX (vX D cy q) l yX8_line cX8_line 8 (some .int) rm_X8_line [.ref (q 87), .int program, .int act, .int a, .int b, .int c] σ (some (.int res.1), res.2) := by
  let fin_ : (Int32 × St) → Option Value × St := fun r => (some (.int r.1), r.2)
  have hro : ∀ (z : Int32 × St) (res : Int32 × St), some z = some res → fin_ res = fin_ z := fun z res h => by cases h; rfl
  refine MetX.of1 (fin := fin_) (lv := [(0, .ref (q 87)), (1, .int program), (2, .int act), (3, .int a), (4, .int b), (5, .int c)]) (by decide) (Nat.le_of_ble_eq_true rfl) rfl ?_
  unfold f_X8_line
  refine g_iload_n (pc := 0) 1 dX8_line_0 rfl rfl ?_
  refine gS_i (pc := 1) [.int program] [] (m_X8_isProgram l D cy q σ program) cw_X8_isProgram km_X8_73 ⟨rfl, rfl, by decide, by decide⟩ dX8_line_1 rfl rfl (Nat.le_of_ble_eq_true rfl) (fun r1 => ?_)
  refine g_if_ne (pc := 4) 9 dX8_line_4 (by decide) ?_ ?_
  · refine g_iload_n (pc := 9) 2 dX8_line_9 rfl rfl ?_
    refine g_iload_n (pc := 10) 3 dX8_line_10 rfl rfl ?_
    refine g_iload (pc := 11) 4 dX8_line_11 rfl ?_
    refine g_iload (pc := 13) 5 dX8_line_13 rfl ?_
    refine gS_i (pc := 15) [.int act, .int a, .int b, .int c] [] (m_X8_isAct l D cy q σ act a b c) cw_X8_isAct km_X8_77 ⟨rfl, rfl, by decide, by decide⟩ dX8_line_15 rfl rfl (Nat.le_of_ble_eq_true rfl) (fun r2 => ?_)
    refine g_if_ne (pc := 18) 24 dX8_line_18 (by decide) ?_ ?_
    · refine g_aload_n (pc := 24) 0 dX8_line_24 rfl rfl ?_
      refine gf_8_programs (pc := 25) kf_X8_14 dX8_line_25 ?_
      refine g_iload_n (pc := 28) 1 dX8_line_28 rfl rfl ?_
      refine g_aald (pc := 29) (k := 3) (t0 := 3) (C0 := RX4) (fun j => 4 + 13 * j) (Nat.le_of_ble_eq_true rfl) rfl (fun _ => rfl) rfl dX8_line_29 (fun k1 h0 => ?_)
      have hk1 := isP_4 h0
      refine g_astore (pc := 30) (lv' := [(6, .ref (q k1)), (0, .ref (q 87)), (1, .int program), (2, .int act), (3, .int a), (4, .int b), (5, .int c)]) dX8_line_30 (Nat.le_of_ble_eq_true rfl) rfl ?_
      refine g_aload (pc := 32) 0 dX8_line_32 rfl ?_
      refine gf_4_size (pc := 34) hk1 kf_X8_81 dX8_line_34 ?_
      refine g_bipush (pc := 37) (12) dX8_line_37 (by decide) ?_
      refine g_icmp_lt (pc := 39) 45 dX8_line_39 (by decide) ?_ ?_
      · refine g_aload (pc := 45) 0 dX8_line_45 rfl ?_
        refine gf_4_size (pc := 47) hk1 kf_X8_81 dX8_line_47 ?_
        refine g_nmi (fun x1 => ?_)
        refine g_istore (pc := 50) (lv' := [(7, .int x1), (6, .ref (q k1)), (0, .ref (q 87)), (1, .int program), (2, .int act), (3, .int a), (4, .int b), (5, .int c)]) dX8_line_50 (Nat.le_of_ble_eq_true rfl) rfl ?_
        refine g_aload (pc := 52) 1 dX8_line_52 rfl ?_
        refine g_iload (pc := 54) 0 dX8_line_54 rfl ?_
        refine g_iconst (pc := 56) (1) dX8_line_56 (by decide) ?_
        refine g_iadd (pc := 57) dX8_line_57 ?_
        refine gp_4_size (pc := 58) hk1 kf_X8_81 dX8_line_58 (fun s1 => ?_)
        refine g_aload (pc := 61) 1 dX8_line_61 rfl ?_
        refine g_iload (pc := 63) 0 dX8_line_63 rfl ?_
        refine g_iload_n (pc := 65) 4 dX8_line_65 rfl rfl ?_
        refine g_iload_n (pc := 66) 5 dX8_line_66 rfl rfl ?_
        refine g_iload (pc := 67) 6 dX8_line_67 rfl ?_
        refine g_iload (pc := 69) 7 dX8_line_69 rfl ?_
        refine gV_v (pc := 71) [.int x1, .int act, .int a, .int b, .int c] [] (m_X4_put l D cy q s1 k1 x1 act a b c hk1) cw_X4_put km_X8_84 ⟨rfl, rfl, by decide, by decide⟩ (by have := hk1.lt; show k1 < 88; omega) (eX_4 (cy := cy) hk1 (s1.1 k1) (s1.2 k1)) rfl dX8_line_71 rfl rfl (Nat.le_of_ble_eq_true rfl) (fun s2 => ?_)
        refine g_aload_n (pc := 74) 2 dX8_line_74 rfl rfl ?_
        refine gV_v (pc := 75) [] [] (m_X8_forget l D cy q s2) cw_X8_forget km_X8_88 ⟨rfl, rfl, by decide, by decide⟩ (Nat.le_of_ble_eq_true rfl) (eX_8 (cy := cy) (s2.1 87) (s2.2 87)) rfl dX8_line_75 rfl rfl (Nat.le_of_ble_eq_true rfl) (fun s3 => ?_)
        refine g_iload (pc := 78) 0 dX8_line_78 rfl ?_
        exact g_iret (pc := 80) (hro _) rfl dX8_line_80
      · refine g_bipush (pc := 42) (-4) dX8_line_42 (by decide) ?_
        exact g_iret (pc := 44) (hro _) rfl dX8_line_44
    · refine g_bipush (pc := 21) (-2) dX8_line_21 (by decide) ?_
      exact g_iret (pc := 23) (hro _) rfl dX8_line_23
  · refine g_iconst (pc := 7) (-1) dX8_line_7 (by decide) ?_
    exact g_iret (pc := 8) (hro _) rfl dX8_line_8
def f_X8_change (program : Int32) (line : Int32) (act : Int32) (a : Int32) (b : Int32) (c : Int32) (σ : St) : Option (Int32 × St) := (f_X8_isProgram program).bind fun r1 => (if r1 = (0 : Int32) then some ((-1 : Int32), σ) else (if line < (0 : Int32) then some ((-1 : Int32), σ) else chk (inb program 4) (nm (4 + 13 * program.toNatClampNeg) fun k1 => (if line < (σ.1 k1 5) then (f_X8_isAct act a b c).bind fun r2 => (if r2 = (0 : Int32) then some ((-2 : Int32), σ) else chk (inb program 4) (nm (4 + 13 * program.toNatClampNeg) fun k2 => chk (inb line 12) (nm (σ.1 (k2 + 1) line.toNatClampNeg) fun x1 => (f_X4_put k2 line act a b c σ).bind fun s1 => (f_X8_forget s1).bind fun s2 => some (x1, s2)))) else some ((-1 : Int32), σ)))))
abbrev rm_X8_change : Room := { frames := 2, cells := 0, slots := 0, locals := 44 }
set_option maxHeartbeats 4000000 in
set_option maxRecDepth 20000 in
theorem m_X8_change (l : Launch) (D : va_G) (cy : Cy) (q : Nat → Nat) (σ : St) (program : Int32) (line : Int32) (act : Int32) (a : Int32) (b : Int32) (c : Int32)  : ∀ res, f_X8_change program line act a b c σ = some res → MetX (vX D cy q) l yX8_change cX8_change 9 (some .int) rm_X8_change [.ref (q 87), .int program, .int line, .int act, .int a, .int b, .int c] σ (some (.int res.1), res.2) := by
  let fin_ : (Int32 × St) → Option Value × St := fun r => (some (.int r.1), r.2)
  have hro : ∀ (z : Int32 × St) (res : Int32 × St), some z = some res → fin_ res = fin_ z := fun z res h => by cases h; rfl
  refine MetX.of1 (fin := fin_) (lv := [(0, .ref (q 87)), (1, .int program), (2, .int line), (3, .int act), (4, .int a), (5, .int b), (6, .int c)]) (by decide) (Nat.le_of_ble_eq_true rfl) rfl ?_
  unfold f_X8_change
  refine g_iload_n (pc := 0) 1 dX8_change_0 rfl rfl ?_
  refine gS_i (pc := 1) [.int program] [] (m_X8_isProgram l D cy q σ program) cw_X8_isProgram km_X8_73 ⟨rfl, rfl, by decide, by decide⟩ dX8_change_1 rfl rfl (Nat.le_of_ble_eq_true rfl) (fun r1 => ?_)
  refine g_if_eq (pc := 4) 24 dX8_change_4 (by decide) ?_ ?_
  · refine g_iconst (pc := 24) (-1) dX8_change_24 (by decide) ?_
    exact g_iret (pc := 25) (hro _) rfl dX8_change_25
  · refine g_iload_n (pc := 7) 2 dX8_change_7 rfl rfl ?_
    refine g_if_lt (pc := 8) 24 dX8_change_8 (by decide) ?_ ?_
    · refine g_iconst (pc := 24) (-1) dX8_change_24 (by decide) ?_
      exact g_iret (pc := 25) (hro _) rfl dX8_change_25
    · refine g_iload_n (pc := 11) 2 dX8_change_11 rfl rfl ?_
      refine g_aload_n (pc := 12) 0 dX8_change_12 rfl rfl ?_
      refine gf_8_programs (pc := 13) kf_X8_14 dX8_change_13 ?_
      refine g_iload_n (pc := 16) 1 dX8_change_16 rfl rfl ?_
      refine g_aald (pc := 17) (k := 3) (t0 := 3) (C0 := RX4) (fun j => 4 + 13 * j) (Nat.le_of_ble_eq_true rfl) rfl (fun _ => rfl) rfl dX8_change_17 (fun k1 h0 => ?_)
      have hk1 := isP_4 h0
      refine gf_4_size (pc := 18) hk1 kf_X8_81 dX8_change_18 ?_
      refine g_icmp_lt (pc := 21) 26 dX8_change_21 (by decide) ?_ ?_
      · refine g_iload_n (pc := 26) 3 dX8_change_26 rfl rfl ?_
        refine g_iload (pc := 27) 4 dX8_change_27 rfl ?_
        refine g_iload (pc := 29) 5 dX8_change_29 rfl ?_
        refine g_iload (pc := 31) 6 dX8_change_31 rfl ?_
        refine gS_i (pc := 33) [.int act, .int a, .int b, .int c] [] (m_X8_isAct l D cy q σ act a b c) cw_X8_isAct km_X8_77 ⟨rfl, rfl, by decide, by decide⟩ dX8_change_33 rfl rfl (Nat.le_of_ble_eq_true rfl) (fun r2 => ?_)
        refine g_if_ne (pc := 36) 42 dX8_change_36 (by decide) ?_ ?_
        · refine g_aload_n (pc := 42) 0 dX8_change_42 rfl rfl ?_
          refine gf_8_programs (pc := 43) kf_X8_14 dX8_change_43 ?_
          refine g_iload_n (pc := 46) 1 dX8_change_46 rfl rfl ?_
          refine g_aald (pc := 47) (k := 3) (t0 := 3) (C0 := RX4) (fun j => 4 + 13 * j) (Nat.le_of_ble_eq_true rfl) rfl (fun _ => rfl) rfl dX8_change_47 (fun k2 h0 => ?_)
          have hk2 := isP_4 h0
          refine g_astore (pc := 48) (lv' := [(7, .ref (q k2)), (0, .ref (q 87)), (1, .int program), (2, .int line), (3, .int act), (4, .int a), (5, .int b), (6, .int c)]) dX8_change_48 (Nat.le_of_ble_eq_true rfl) rfl ?_
          refine g_aload (pc := 50) 0 dX8_change_50 rfl ?_
          refine gf_4_act (pc := 52) hk2 kf_X8_91 dX8_change_52 ?_
          refine g_iload_n (pc := 55) 3 dX8_change_55 rfl rfl ?_
          refine a_ild (pc := 56) (aX_4_act hk2) dX8_change_56 ?_
          refine g_nmi (fun x1 => ?_)
          refine g_istore (pc := 57) (lv' := [(8, .int x1), (7, .ref (q k2)), (0, .ref (q 87)), (1, .int program), (2, .int line), (3, .int act), (4, .int a), (5, .int b), (6, .int c)]) dX8_change_57 (Nat.le_of_ble_eq_true rfl) rfl ?_
          refine g_aload (pc := 59) 1 dX8_change_59 rfl ?_
          refine g_iload_n (pc := 61) 4 dX8_change_61 rfl rfl ?_
          refine g_iload_n (pc := 62) 5 dX8_change_62 rfl rfl ?_
          refine g_iload (pc := 63) 6 dX8_change_63 rfl ?_
          refine g_iload (pc := 65) 7 dX8_change_65 rfl ?_
          refine g_iload (pc := 67) 8 dX8_change_67 rfl ?_
          refine gV_v (pc := 69) [.int line, .int act, .int a, .int b, .int c] [] (m_X4_put l D cy q σ k2 line act a b c hk2) cw_X4_put km_X8_84 ⟨rfl, rfl, by decide, by decide⟩ (by have := hk2.lt; show k2 < 88; omega) (eX_4 (cy := cy) hk2 (σ.1 k2) (σ.2 k2)) rfl dX8_change_69 rfl rfl (Nat.le_of_ble_eq_true rfl) (fun s1 => ?_)
          refine g_aload_n (pc := 72) 2 dX8_change_72 rfl rfl ?_
          refine gV_v (pc := 73) [] [] (m_X8_forget l D cy q s1) cw_X8_forget km_X8_88 ⟨rfl, rfl, by decide, by decide⟩ (Nat.le_of_ble_eq_true rfl) (eX_8 (cy := cy) (s1.1 87) (s1.2 87)) rfl dX8_change_73 rfl rfl (Nat.le_of_ble_eq_true rfl) (fun s2 => ?_)
          refine g_iload (pc := 76) 0 dX8_change_76 rfl ?_
          exact g_iret (pc := 78) (hro _) rfl dX8_change_78
        · refine g_bipush (pc := 39) (-2) dX8_change_39 (by decide) ?_
          exact g_iret (pc := 41) (hro _) rfl dX8_change_41
      · refine g_iconst (pc := 24) (-1) dX8_change_24 (by decide) ?_
        exact g_iret (pc := 25) (hro _) rfl dX8_change_25
def f_X8_clear (program : Int32) (σ : St) : Option (Int32 × St) := (f_X8_isProgram program).bind fun r1 => (if r1 = (0 : Int32) then some ((-1 : Int32), σ) else chk (inb program 4) (nm (4 + 13 * program.toNatClampNeg) fun k1 => nm (σ.1 k1 5) fun x1 => nm (stI σ k1 5 (0 : Int32)) fun s1 => (f_X4_hush k1 (0 : Int32) s1).bind fun s2 => (f_X8_forget s2).bind fun s3 => some (x1, s3)))
abbrev rm_X8_clear : Room := { frames := 2, cells := 0, slots := 0, locals := 41 }
set_option maxHeartbeats 4000000 in
set_option maxRecDepth 20000 in
theorem m_X8_clear (l : Launch) (D : va_G) (cy : Cy) (q : Nat → Nat) (σ : St) (program : Int32)  : ∀ res, f_X8_clear program σ = some res → MetX (vX D cy q) l yX8_clear cX8_clear 4 (some .int) rm_X8_clear [.ref (q 87), .int program] σ (some (.int res.1), res.2) := by
  let fin_ : (Int32 × St) → Option Value × St := fun r => (some (.int r.1), r.2)
  have hro : ∀ (z : Int32 × St) (res : Int32 × St), some z = some res → fin_ res = fin_ z := fun z res h => by cases h; rfl
  refine MetX.of1 (fin := fin_) (lv := [(0, .ref (q 87)), (1, .int program)]) (by decide) (Nat.le_of_ble_eq_true rfl) rfl ?_
  unfold f_X8_clear
  refine g_iload_n (pc := 0) 1 dX8_clear_0 rfl rfl ?_
  refine gS_i (pc := 1) [.int program] [] (m_X8_isProgram l D cy q σ program) cw_X8_isProgram km_X8_73 ⟨rfl, rfl, by decide, by decide⟩ dX8_clear_1 rfl rfl (Nat.le_of_ble_eq_true rfl) (fun r1 => ?_)
  refine g_if_ne (pc := 4) 9 dX8_clear_4 (by decide) ?_ ?_
  · refine g_aload_n (pc := 9) 0 dX8_clear_9 rfl rfl ?_
    refine gf_8_programs (pc := 10) kf_X8_14 dX8_clear_10 ?_
    refine g_iload_n (pc := 13) 1 dX8_clear_13 rfl rfl ?_
    refine g_aald (pc := 14) (k := 3) (t0 := 3) (C0 := RX4) (fun j => 4 + 13 * j) (Nat.le_of_ble_eq_true rfl) rfl (fun _ => rfl) rfl dX8_clear_14 (fun k1 h0 => ?_)
    have hk1 := isP_4 h0
    refine g_astore_n (pc := 15) (lv' := [(2, .ref (q k1)), (0, .ref (q 87)), (1, .int program)]) dX8_clear_15 rfl (Nat.le_of_ble_eq_true rfl) rfl ?_
    refine g_aload_n (pc := 16) 0 dX8_clear_16 rfl rfl ?_
    refine gf_4_size (pc := 17) hk1 kf_X8_81 dX8_clear_17 ?_
    refine g_nmi (fun x1 => ?_)
    refine g_istore_n (pc := 20) (lv' := [(3, .int x1), (2, .ref (q k1)), (0, .ref (q 87)), (1, .int program)]) dX8_clear_20 rfl (Nat.le_of_ble_eq_true rfl) rfl ?_
    refine g_aload_n (pc := 21) 1 dX8_clear_21 rfl rfl ?_
    refine g_iconst (pc := 22) (0) dX8_clear_22 (by decide) ?_
    refine gp_4_size (pc := 23) hk1 kf_X8_81 dX8_clear_23 (fun s1 => ?_)
    refine g_aload_n (pc := 26) 1 dX8_clear_26 rfl rfl ?_
    refine g_iconst (pc := 27) (0) dX8_clear_27 (by decide) ?_
    refine gV_v (pc := 28) [.int (0 : Int32)] [] (m_X4_hush l D cy q s1 k1 (0 : Int32) hk1) cw_X4_hush km_X8_95 ⟨rfl, rfl, by decide, by decide⟩ (by have := hk1.lt; show k1 < 88; omega) (eX_4 (cy := cy) hk1 (s1.1 k1) (s1.2 k1)) rfl dX8_clear_28 rfl rfl (Nat.le_of_ble_eq_true rfl) (fun s2 => ?_)
    refine g_aload_n (pc := 31) 2 dX8_clear_31 rfl rfl ?_
    refine gV_v (pc := 32) [] [] (m_X8_forget l D cy q s2) cw_X8_forget km_X8_88 ⟨rfl, rfl, by decide, by decide⟩ (Nat.le_of_ble_eq_true rfl) (eX_8 (cy := cy) (s2.1 87) (s2.2 87)) rfl dX8_clear_32 rfl rfl (Nat.le_of_ble_eq_true rfl) (fun s3 => ?_)
    refine g_iload_n (pc := 35) 0 dX8_clear_35 rfl rfl ?_
    exact g_iret (pc := 36) (hro _) rfl dX8_clear_36
  · refine g_iconst (pc := 7) (-1) dX8_clear_7 (by decide) ?_
    exact g_iret (pc := 8) (hro _) rfl dX8_clear_8
def f_X8_silent (program : Int32) (lines : Int32) (σ : St) : Option (Int32 × St) := (f_X8_isProgram program).bind fun r1 => (if r1 = (0 : Int32) then some ((-1 : Int32), σ) else (f_X8_isWithin lines (4095 : Int32)).bind fun r2 => (if r2 = (0 : Int32) then some ((-2 : Int32), σ) else chk (inb program 4) (nm (4 + 13 * program.toNatClampNeg) fun k1 => nm (σ.1 k1 6) fun x1 => (f_X4_hush k1 lines σ).bind fun s1 => (f_X8_forget s1).bind fun s2 => some (x1, s2))))
abbrev rm_X8_silent : Room := { frames := 2, cells := 0, slots := 0, locals := 41 }
set_option maxHeartbeats 4000000 in
set_option maxRecDepth 20000 in
theorem m_X8_silent (l : Launch) (D : va_G) (cy : Cy) (q : Nat → Nat) (σ : St) (program : Int32) (lines : Int32)  : ∀ res, f_X8_silent program lines σ = some res → MetX (vX D cy q) l yX8_silent cX8_silent 5 (some .int) rm_X8_silent [.ref (q 87), .int program, .int lines] σ (some (.int res.1), res.2) := by
  let fin_ : (Int32 × St) → Option Value × St := fun r => (some (.int r.1), r.2)
  have hro : ∀ (z : Int32 × St) (res : Int32 × St), some z = some res → fin_ res = fin_ z := fun z res h => by cases h; rfl
  refine MetX.of1 (fin := fin_) (lv := [(0, .ref (q 87)), (1, .int program), (2, .int lines)]) (by decide) (Nat.le_of_ble_eq_true rfl) rfl ?_
  unfold f_X8_silent
  refine g_iload_n (pc := 0) 1 dX8_silent_0 rfl rfl ?_
  refine gS_i (pc := 1) [.int program] [] (m_X8_isProgram l D cy q σ program) cw_X8_isProgram km_X8_73 ⟨rfl, rfl, by decide, by decide⟩ dX8_silent_1 rfl rfl (Nat.le_of_ble_eq_true rfl) (fun r1 => ?_)
  refine g_if_ne (pc := 4) 9 dX8_silent_4 (by decide) ?_ ?_
  · refine g_iload_n (pc := 9) 2 dX8_silent_9 rfl rfl ?_
    refine g_sipush (pc := 10) (4095) dX8_silent_10 (by decide) ?_
    refine gS_i (pc := 13) [.int lines, .int (4095 : Int32)] [] (m_X8_isWithin l D cy q σ lines (4095 : Int32)) cw_X8_isWithin km_X8_99 ⟨rfl, rfl, by decide, by decide⟩ dX8_silent_13 rfl rfl (Nat.le_of_ble_eq_true rfl) (fun r2 => ?_)
    refine g_if_ne (pc := 16) 22 dX8_silent_16 (by decide) ?_ ?_
    · refine g_aload_n (pc := 22) 0 dX8_silent_22 rfl rfl ?_
      refine gf_8_programs (pc := 23) kf_X8_14 dX8_silent_23 ?_
      refine g_iload_n (pc := 26) 1 dX8_silent_26 rfl rfl ?_
      refine g_aald (pc := 27) (k := 3) (t0 := 3) (C0 := RX4) (fun j => 4 + 13 * j) (Nat.le_of_ble_eq_true rfl) rfl (fun _ => rfl) rfl dX8_silent_27 (fun k1 h0 => ?_)
      have hk1 := isP_4 h0
      refine g_astore_n (pc := 28) (lv' := [(3, .ref (q k1)), (0, .ref (q 87)), (1, .int program), (2, .int lines)]) dX8_silent_28 rfl (Nat.le_of_ble_eq_true rfl) rfl ?_
      refine g_aload_n (pc := 29) 0 dX8_silent_29 rfl rfl ?_
      refine gf_4_hushed (pc := 30) hk1 kf_X8_103 dX8_silent_30 ?_
      refine g_nmi (fun x1 => ?_)
      refine g_istore (pc := 33) (lv' := [(4, .int x1), (3, .ref (q k1)), (0, .ref (q 87)), (1, .int program), (2, .int lines)]) dX8_silent_33 (Nat.le_of_ble_eq_true rfl) rfl ?_
      refine g_aload_n (pc := 35) 1 dX8_silent_35 rfl rfl ?_
      refine g_iload_n (pc := 36) 4 dX8_silent_36 rfl rfl ?_
      refine gV_v (pc := 37) [.int lines] [] (m_X4_hush l D cy q σ k1 lines hk1) cw_X4_hush km_X8_95 ⟨rfl, rfl, by decide, by decide⟩ (by have := hk1.lt; show k1 < 88; omega) (eX_4 (cy := cy) hk1 (σ.1 k1) (σ.2 k1)) rfl dX8_silent_37 rfl rfl (Nat.le_of_ble_eq_true rfl) (fun s1 => ?_)
      refine g_aload_n (pc := 40) 2 dX8_silent_40 rfl rfl ?_
      refine gV_v (pc := 41) [] [] (m_X8_forget l D cy q s1) cw_X8_forget km_X8_88 ⟨rfl, rfl, by decide, by decide⟩ (Nat.le_of_ble_eq_true rfl) (eX_8 (cy := cy) (s1.1 87) (s1.2 87)) rfl dX8_silent_41 rfl rfl (Nat.le_of_ble_eq_true rfl) (fun s2 => ?_)
      refine g_iload (pc := 44) 0 dX8_silent_44 rfl ?_
      exact g_iret (pc := 46) (hro _) rfl dX8_silent_46
    · refine g_bipush (pc := 19) (-2) dX8_silent_19 (by decide) ?_
      exact g_iret (pc := 21) (hro _) rfl dX8_silent_21
  · refine g_iconst (pc := 7) (-1) dX8_silent_7 (by decide) ?_
    exact g_iret (pc := 8) (hro _) rfl dX8_silent_8
def f_X8_isMemory (memory : Int32) : Option (Int32) := (f_X8_isWithin memory (255 : Int32)).bind fun r1 => chk (isb r1) (some r1)
abbrev rm_X8_isMemory : Room := { frames := 1, cells := 0, slots := 0, locals := 21 }
set_option maxHeartbeats 4000000 in
set_option maxRecDepth 20000 in
theorem m_X8_isMemory (l : Launch) (D : va_G) (cy : Cy) (q : Nat → Nat) (σ : St) (memory : Int32)  : ∀ res, f_X8_isMemory memory = some res → MetX (vX D cy q) l yX8_isMemory cX8_isMemory 1 (some .boolean) rm_X8_isMemory [.int memory] σ (some (.int res), σ) := by
  let fin_ : Int32 → Option Value × St := fun r => (some (.int r), σ)
  have hro : ∀ (z : Int32) (res : Int32), some z = some res → fin_ res = fin_ z := fun z res h => by cases h; rfl
  refine MetX.of1 (fin := fin_) (lv := [(0, .int memory)]) (by decide) (Nat.le_of_ble_eq_true rfl) rfl ?_
  unfold f_X8_isMemory
  refine g_iload_n (pc := 0) 0 dX8_isMemory_0 rfl rfl ?_
  refine g_sipush (pc := 1) (255) dX8_isMemory_1 (by decide) ?_
  refine gS_i (pc := 4) [.int memory, .int (255 : Int32)] [] (m_X8_isWithin l D cy q σ memory (255 : Int32)) cw_X8_isWithin km_X8_99 ⟨rfl, rfl, by decide, by decide⟩ dX8_isMemory_4 rfl rfl (Nat.le_of_ble_eq_true rfl) (fun r1 => ?_)
  exact g_chk fun hb => g_zret (pc := 7) hb (hro _) rfl dX8_isMemory_7
def f_X8_run (program : Int32) (start : Int32) (what : Int32) (σ : St) : Option (Int32 × St) := (f_X8_isProgram program).bind fun r1 => (if r1 = (0 : Int32) then some ((-1 : Int32), σ) else (if what < (10 : Int32) then (f_X8_isMemory start).bind fun r2 => (if r2 = (0 : Int32) then some ((-2 : Int32), σ) else (f_X8_isWithin what (3 : Int32)).bind fun r3 => (if r3 = (0 : Int32) then some ((-2 : Int32), σ) else chk (inb program 4) (nm (4 + 13 * program.toNatClampNeg) fun k1 => (f_X4_trace k1 start σ).bind fun s1 => (if what = (0 : Int32) then chk (inb start 256) (some ((s1.1 (k1 + 7) start.toNatClampNeg), s1)) else (if what = (1 : Int32) then chk (inb start 256) (some ((s1.1 (k1 + 8) start.toNatClampNeg), s1)) else (if what = (2 : Int32) then chk (inb start 256) (some ((s1.1 (k1 + 10) start.toNatClampNeg), s1)) else (if what = (3 : Int32) then chk (inb start 256) (some ((s1.1 (k1 + 11) start.toNatClampNeg), s1)) else (f_X4_shownAt k1 start (what - (10 : Int32)) s1).bind fun r4 => some (r4, s1)))))))) else (if (34 : Int32) ≤ what then (f_X8_isMemory start).bind fun r5 => (if r5 = (0 : Int32) then some ((-2 : Int32), σ) else (f_X8_isWithin what (3 : Int32)).bind fun r6 => (if r6 = (0 : Int32) then some ((-2 : Int32), σ) else chk (inb program 4) (nm (4 + 13 * program.toNatClampNeg) fun k2 => (f_X4_trace k2 start σ).bind fun s2 => (if what = (0 : Int32) then chk (inb start 256) (some ((s2.1 (k2 + 7) start.toNatClampNeg), s2)) else (if what = (1 : Int32) then chk (inb start 256) (some ((s2.1 (k2 + 8) start.toNatClampNeg), s2)) else (if what = (2 : Int32) then chk (inb start 256) (some ((s2.1 (k2 + 10) start.toNatClampNeg), s2)) else (if what = (3 : Int32) then chk (inb start 256) (some ((s2.1 (k2 + 11) start.toNatClampNeg), s2)) else (f_X4_shownAt k2 start (what - (10 : Int32)) s2).bind fun r7 => some (r7, s2)))))))) else (f_X8_isMemory start).bind fun r8 => (if r8 = (0 : Int32) then some ((-2 : Int32), σ) else (f_X8_isWithin what (3 : Int32)).bind fun r9 => (if r9 = (0 : Int32) then chk (inb program 4) (nm (4 + 13 * program.toNatClampNeg) fun k4 => (f_X4_trace k4 start σ).bind fun s4 => (if what = (0 : Int32) then chk (inb start 256) (some ((s4.1 (k4 + 7) start.toNatClampNeg), s4)) else (if what = (1 : Int32) then chk (inb start 256) (some ((s4.1 (k4 + 8) start.toNatClampNeg), s4)) else (if what = (2 : Int32) then chk (inb start 256) (some ((s4.1 (k4 + 10) start.toNatClampNeg), s4)) else (if what = (3 : Int32) then chk (inb start 256) (some ((s4.1 (k4 + 11) start.toNatClampNeg), s4)) else (f_X4_shownAt k4 start (what - (10 : Int32)) s4).bind fun r11 => some (r11, s4)))))) else chk (inb program 4) (nm (4 + 13 * program.toNatClampNeg) fun k3 => (f_X4_trace k3 start σ).bind fun s3 => (if what = (0 : Int32) then chk (inb start 256) (some ((s3.1 (k3 + 7) start.toNatClampNeg), s3)) else (if what = (1 : Int32) then chk (inb start 256) (some ((s3.1 (k3 + 8) start.toNatClampNeg), s3)) else (if what = (2 : Int32) then chk (inb start 256) (some ((s3.1 (k3 + 10) start.toNatClampNeg), s3)) else (if what = (3 : Int32) then chk (inb start 256) (some ((s3.1 (k3 + 11) start.toNatClampNeg), s3)) else (f_X4_shownAt k3 start (what - (10 : Int32)) s3).bind fun r10 => some (r10, s3)))))))))))
abbrev rm_X8_run : Room := { frames := 3, cells := 0, slots := 0, locals := 79 }
set_option maxHeartbeats 4000000 in
set_option maxRecDepth 20000 in
theorem m_X8_run (l : Launch) (D : va_G) (cy : Cy) (q : Nat → Nat) (σ : St) (program : Int32) (start : Int32) (what : Int32)  : ∀ res, f_X8_run program start what σ = some res → MetX (vX D cy q) l yX8_run cX8_run 6 (some .int) rm_X8_run [.ref (q 87), .int program, .int start, .int what] σ (some (.int res.1), res.2) := by
  let fin_ : (Int32 × St) → Option Value × St := fun r => (some (.int r.1), r.2)
  have hro : ∀ (z : Int32 × St) (res : Int32 × St), some z = some res → fin_ res = fin_ z := fun z res h => by cases h; rfl
  refine MetX.of1 (fin := fin_) (lv := [(0, .ref (q 87)), (1, .int program), (2, .int start), (3, .int what)]) (by decide) (Nat.le_of_ble_eq_true rfl) rfl ?_
  unfold f_X8_run
  refine g_iload_n (pc := 0) 1 dX8_run_0 rfl rfl ?_
  refine gS_i (pc := 1) [.int program] [] (m_X8_isProgram l D cy q σ program) cw_X8_isProgram km_X8_73 ⟨rfl, rfl, by decide, by decide⟩ dX8_run_1 rfl rfl (Nat.le_of_ble_eq_true rfl) (fun r1 => ?_)
  refine g_if_ne (pc := 4) 9 dX8_run_4 (by decide) ?_ ?_
  · refine g_iload_n (pc := 9) 3 dX8_run_9 rfl rfl ?_
    refine g_bipush (pc := 10) (10) dX8_run_10 (by decide) ?_
    refine g_icmp_lt (pc := 12) 25 dX8_run_12 (by decide) ?_ ?_
    · refine g_iconst (pc := 25) (0) dX8_run_25 (by decide) ?_
      refine g_istore (pc := 26) (lv' := [(4, .int (0 : Int32)), (0, .ref (q 87)), (1, .int program), (2, .int start), (3, .int what)]) dX8_run_26 (Nat.le_of_ble_eq_true rfl) rfl ?_
      refine g_iload_n (pc := 28) 3 dX8_run_28 rfl rfl ?_
      refine gS_i (pc := 29) [.int start] [] (m_X8_isMemory l D cy q σ start) cw_X8_isMemory km_X8_106 ⟨rfl, rfl, by decide, by decide⟩ dX8_run_29 rfl rfl (Nat.le_of_ble_eq_true rfl) (fun r2 => ?_)
      refine g_if_eq (pc := 32) 48 dX8_run_32 (by decide) ?_ ?_
      · refine g_bipush (pc := 48) (-2) dX8_run_48 (by decide) ?_
        exact g_iret (pc := 50) (hro _) rfl dX8_run_50
      · refine g_iload_n (pc := 35) 4 dX8_run_35 rfl rfl ?_
        refine g_iconst (pc := 36) (3) dX8_run_36 (by decide) ?_
        refine gS_i (pc := 37) [.int what, .int (3 : Int32)] [] (m_X8_isWithin l D cy q σ what (3 : Int32)) cw_X8_isWithin km_X8_99 ⟨rfl, rfl, by decide, by decide⟩ dX8_run_37 rfl rfl (Nat.le_of_ble_eq_true rfl) (fun r3 => ?_)
        refine g_if_ne (pc := 40) 51 dX8_run_40 (by decide) ?_ ?_
        · refine g_aload_n (pc := 51) 1 dX8_run_51 rfl rfl ?_
          refine gf_8_programs (pc := 52) kf_X8_14 dX8_run_52 ?_
          refine g_iload_n (pc := 55) 2 dX8_run_55 rfl rfl ?_
          refine g_aald (pc := 56) (k := 3) (t0 := 3) (C0 := RX4) (fun j => 4 + 13 * j) (Nat.le_of_ble_eq_true rfl) rfl (fun _ => rfl) rfl dX8_run_56 (fun k1 h0 => ?_)
          have hk1 := isP_4 h0
          refine g_astore (pc := 57) (lv' := [(5, .ref (q k1)), (4, .int (0 : Int32)), (0, .ref (q 87)), (1, .int program), (2, .int start), (3, .int what)]) dX8_run_57 (Nat.le_of_ble_eq_true rfl) rfl ?_
          refine g_aload (pc := 59) 0 dX8_run_59 rfl ?_
          refine g_iload_n (pc := 61) 4 dX8_run_61 rfl rfl ?_
          refine gV_v (pc := 62) [.int start] [] (m_X4_trace l D cy q σ k1 start hk1) cw_X4_trace km_X8_109 ⟨rfl, rfl, by decide, by decide⟩ (by have := hk1.lt; show k1 < 88; omega) (eX_4 (cy := cy) hk1 (σ.1 k1) (σ.2 k1)) rfl dX8_run_62 rfl rfl (Nat.le_of_ble_eq_true rfl) (fun s1 => ?_)
          refine g_iload_n (pc := 65) 5 dX8_run_65 rfl rfl ?_
          refine g_if (fun c66_0 => ?_) (fun n66_0 => ?_)
          · refine g_tbl (pc := 66) (0) 96 dX8_run_66 (i32_eq (0) rfl c66_0) (by decide) (by decide) rfl (by decide) ?_
            refine g_aload (pc := 96) 0 dX8_run_96 rfl ?_
            refine gf_4_endOf (pc := 98) hk1 kf_X8_112 dX8_run_98 ?_
            refine g_iload_n (pc := 101) 4 dX8_run_101 rfl rfl ?_
            refine a_ild (pc := 102) (aX_4_endOf hk1) dX8_run_102 ?_
            exact g_iret (pc := 103) (hro _) rfl dX8_run_103
          · refine g_if (fun c66_1 => ?_) (fun n66_1 => ?_)
            · refine g_tbl (pc := 66) (1) 104 dX8_run_66 (i32_eq (1) rfl c66_1) (by decide) (by decide) rfl (by decide) ?_
              refine g_aload (pc := 104) 0 dX8_run_104 rfl ?_
              refine gf_4_lastOf (pc := 106) hk1 kf_X8_115 dX8_run_106 ?_
              refine g_iload_n (pc := 109) 4 dX8_run_109 rfl rfl ?_
              refine a_ild (pc := 110) (aX_4_lastOf hk1) dX8_run_110 ?_
              exact g_iret (pc := 111) (hro _) rfl dX8_run_111
            · refine g_if (fun c66_2 => ?_) (fun n66_2 => ?_)
              · refine g_tbl (pc := 66) (2) 112 dX8_run_66 (i32_eq (2) rfl c66_2) (by decide) (by decide) rfl (by decide) ?_
                refine g_aload (pc := 112) 0 dX8_run_112 rfl ?_
                refine gf_4_stepsOf (pc := 114) hk1 kf_X8_118 dX8_run_114 ?_
                refine g_iload_n (pc := 117) 4 dX8_run_117 rfl rfl ?_
                refine a_ild (pc := 118) (aX_4_stepsOf hk1) dX8_run_118 ?_
                exact g_iret (pc := 119) (hro _) rfl dX8_run_119
              · refine g_if (fun c66_3 => ?_) (fun n66_3 => ?_)
                · refine g_tbl (pc := 66) (3) 120 dX8_run_66 (i32_eq (3) rfl c66_3) (by decide) (by decide) rfl (by decide) ?_
                  refine g_aload (pc := 120) 0 dX8_run_120 rfl ?_
                  refine gf_4_showedOf (pc := 122) hk1 kf_X8_121 dX8_run_122 ?_
                  refine g_iload_n (pc := 125) 4 dX8_run_125 rfl rfl ?_
                  refine a_ild (pc := 126) (aX_4_showedOf hk1) dX8_run_126 ?_
                  exact g_iret (pc := 127) (hro _) rfl dX8_run_127
                · refine g_tblOut (pc := 66) 128 dX8_run_66 (by have e0 := i32_ne (0) rfl n66_0; have e1 := i32_ne (1) rfl n66_1; have e2 := i32_ne (2) rfl n66_2; have e3 := i32_ne (3) rfl n66_3; omega) (by decide) ?_
                  refine g_aload (pc := 128) 0 dX8_run_128 rfl ?_
                  refine g_iload_n (pc := 130) 4 dX8_run_130 rfl rfl ?_
                  refine g_iload_n (pc := 131) 5 dX8_run_131 rfl rfl ?_
                  refine g_bipush (pc := 132) (10) dX8_run_132 (by decide) ?_
                  refine g_isub (pc := 134) dX8_run_134 ?_
                  refine gV_i (pc := 135) [.int start, .int (what - (10 : Int32))] [] (m_X4_shownAt l D cy q s1 k1 start (what - (10 : Int32)) hk1) cw_X4_shownAt km_X8_124 ⟨rfl, rfl, by decide, by decide⟩ (by have := hk1.lt; show k1 < 88; omega) (eX_4 (cy := cy) hk1 (s1.1 k1) (s1.2 k1)) rfl dX8_run_135 rfl rfl (Nat.le_of_ble_eq_true rfl) (fun r4 => ?_)
                  exact g_iret (pc := 138) (hro _) rfl dX8_run_138
        · refine g_iload (pc := 43) 0 dX8_run_43 rfl ?_
          refine g_ifne_n (pc := 45) 51 (by decide) dX8_run_45 (by decide) ?_
          refine g_bipush (pc := 48) (-2) dX8_run_48 (by decide) ?_
          exact g_iret (pc := 50) (hro _) rfl dX8_run_50
    · refine g_iload_n (pc := 15) 3 dX8_run_15 rfl rfl ?_
      refine g_bipush (pc := 16) (34) dX8_run_16 (by decide) ?_
      refine g_icmp_ge (pc := 18) 25 dX8_run_18 (by decide) ?_ ?_
      · refine g_iconst (pc := 25) (0) dX8_run_25 (by decide) ?_
        refine g_istore (pc := 26) (lv' := [(4, .int (0 : Int32)), (0, .ref (q 87)), (1, .int program), (2, .int start), (3, .int what)]) dX8_run_26 (Nat.le_of_ble_eq_true rfl) rfl ?_
        refine g_iload_n (pc := 28) 3 dX8_run_28 rfl rfl ?_
        refine gS_i (pc := 29) [.int start] [] (m_X8_isMemory l D cy q σ start) cw_X8_isMemory km_X8_106 ⟨rfl, rfl, by decide, by decide⟩ dX8_run_29 rfl rfl (Nat.le_of_ble_eq_true rfl) (fun r5 => ?_)
        refine g_if_eq (pc := 32) 48 dX8_run_32 (by decide) ?_ ?_
        · refine g_bipush (pc := 48) (-2) dX8_run_48 (by decide) ?_
          exact g_iret (pc := 50) (hro _) rfl dX8_run_50
        · refine g_iload_n (pc := 35) 4 dX8_run_35 rfl rfl ?_
          refine g_iconst (pc := 36) (3) dX8_run_36 (by decide) ?_
          refine gS_i (pc := 37) [.int what, .int (3 : Int32)] [] (m_X8_isWithin l D cy q σ what (3 : Int32)) cw_X8_isWithin km_X8_99 ⟨rfl, rfl, by decide, by decide⟩ dX8_run_37 rfl rfl (Nat.le_of_ble_eq_true rfl) (fun r6 => ?_)
          refine g_if_ne (pc := 40) 51 dX8_run_40 (by decide) ?_ ?_
          · refine g_aload_n (pc := 51) 1 dX8_run_51 rfl rfl ?_
            refine gf_8_programs (pc := 52) kf_X8_14 dX8_run_52 ?_
            refine g_iload_n (pc := 55) 2 dX8_run_55 rfl rfl ?_
            refine g_aald (pc := 56) (k := 3) (t0 := 3) (C0 := RX4) (fun j => 4 + 13 * j) (Nat.le_of_ble_eq_true rfl) rfl (fun _ => rfl) rfl dX8_run_56 (fun k2 h0 => ?_)
            have hk2 := isP_4 h0
            refine g_astore (pc := 57) (lv' := [(5, .ref (q k2)), (4, .int (0 : Int32)), (0, .ref (q 87)), (1, .int program), (2, .int start), (3, .int what)]) dX8_run_57 (Nat.le_of_ble_eq_true rfl) rfl ?_
            refine g_aload (pc := 59) 0 dX8_run_59 rfl ?_
            refine g_iload_n (pc := 61) 4 dX8_run_61 rfl rfl ?_
            refine gV_v (pc := 62) [.int start] [] (m_X4_trace l D cy q σ k2 start hk2) cw_X4_trace km_X8_109 ⟨rfl, rfl, by decide, by decide⟩ (by have := hk2.lt; show k2 < 88; omega) (eX_4 (cy := cy) hk2 (σ.1 k2) (σ.2 k2)) rfl dX8_run_62 rfl rfl (Nat.le_of_ble_eq_true rfl) (fun s2 => ?_)
            refine g_iload_n (pc := 65) 5 dX8_run_65 rfl rfl ?_
            refine g_if (fun c66_0 => ?_) (fun n66_0 => ?_)
            · refine g_tbl (pc := 66) (0) 96 dX8_run_66 (i32_eq (0) rfl c66_0) (by decide) (by decide) rfl (by decide) ?_
              refine g_aload (pc := 96) 0 dX8_run_96 rfl ?_
              refine gf_4_endOf (pc := 98) hk2 kf_X8_112 dX8_run_98 ?_
              refine g_iload_n (pc := 101) 4 dX8_run_101 rfl rfl ?_
              refine a_ild (pc := 102) (aX_4_endOf hk2) dX8_run_102 ?_
              exact g_iret (pc := 103) (hro _) rfl dX8_run_103
            · refine g_if (fun c66_1 => ?_) (fun n66_1 => ?_)
              · refine g_tbl (pc := 66) (1) 104 dX8_run_66 (i32_eq (1) rfl c66_1) (by decide) (by decide) rfl (by decide) ?_
                refine g_aload (pc := 104) 0 dX8_run_104 rfl ?_
                refine gf_4_lastOf (pc := 106) hk2 kf_X8_115 dX8_run_106 ?_
                refine g_iload_n (pc := 109) 4 dX8_run_109 rfl rfl ?_
                refine a_ild (pc := 110) (aX_4_lastOf hk2) dX8_run_110 ?_
                exact g_iret (pc := 111) (hro _) rfl dX8_run_111
              · refine g_if (fun c66_2 => ?_) (fun n66_2 => ?_)
                · refine g_tbl (pc := 66) (2) 112 dX8_run_66 (i32_eq (2) rfl c66_2) (by decide) (by decide) rfl (by decide) ?_
                  refine g_aload (pc := 112) 0 dX8_run_112 rfl ?_
                  refine gf_4_stepsOf (pc := 114) hk2 kf_X8_118 dX8_run_114 ?_
                  refine g_iload_n (pc := 117) 4 dX8_run_117 rfl rfl ?_
                  refine a_ild (pc := 118) (aX_4_stepsOf hk2) dX8_run_118 ?_
                  exact g_iret (pc := 119) (hro _) rfl dX8_run_119
                · refine g_if (fun c66_3 => ?_) (fun n66_3 => ?_)
                  · refine g_tbl (pc := 66) (3) 120 dX8_run_66 (i32_eq (3) rfl c66_3) (by decide) (by decide) rfl (by decide) ?_
                    refine g_aload (pc := 120) 0 dX8_run_120 rfl ?_
                    refine gf_4_showedOf (pc := 122) hk2 kf_X8_121 dX8_run_122 ?_
                    refine g_iload_n (pc := 125) 4 dX8_run_125 rfl rfl ?_
                    refine a_ild (pc := 126) (aX_4_showedOf hk2) dX8_run_126 ?_
                    exact g_iret (pc := 127) (hro _) rfl dX8_run_127
                  · refine g_tblOut (pc := 66) 128 dX8_run_66 (by have e0 := i32_ne (0) rfl n66_0; have e1 := i32_ne (1) rfl n66_1; have e2 := i32_ne (2) rfl n66_2; have e3 := i32_ne (3) rfl n66_3; omega) (by decide) ?_
                    refine g_aload (pc := 128) 0 dX8_run_128 rfl ?_
                    refine g_iload_n (pc := 130) 4 dX8_run_130 rfl rfl ?_
                    refine g_iload_n (pc := 131) 5 dX8_run_131 rfl rfl ?_
                    refine g_bipush (pc := 132) (10) dX8_run_132 (by decide) ?_
                    refine g_isub (pc := 134) dX8_run_134 ?_
                    refine gV_i (pc := 135) [.int start, .int (what - (10 : Int32))] [] (m_X4_shownAt l D cy q s2 k2 start (what - (10 : Int32)) hk2) cw_X4_shownAt km_X8_124 ⟨rfl, rfl, by decide, by decide⟩ (by have := hk2.lt; show k2 < 88; omega) (eX_4 (cy := cy) hk2 (s2.1 k2) (s2.2 k2)) rfl dX8_run_135 rfl rfl (Nat.le_of_ble_eq_true rfl) (fun r7 => ?_)
                    exact g_iret (pc := 138) (hro _) rfl dX8_run_138
          · refine g_iload (pc := 43) 0 dX8_run_43 rfl ?_
            refine g_ifne_n (pc := 45) 51 (by decide) dX8_run_45 (by decide) ?_
            refine g_bipush (pc := 48) (-2) dX8_run_48 (by decide) ?_
            exact g_iret (pc := 50) (hro _) rfl dX8_run_50
      · refine g_iconst (pc := 21) (1) dX8_run_21 (by decide) ?_
        refine g_goto (pc := 22) 26 dX8_run_22 (by decide) ?_
        refine g_istore (pc := 26) (lv' := [(4, .int (1 : Int32)), (0, .ref (q 87)), (1, .int program), (2, .int start), (3, .int what)]) dX8_run_26 (Nat.le_of_ble_eq_true rfl) rfl ?_
        refine g_iload_n (pc := 28) 3 dX8_run_28 rfl rfl ?_
        refine gS_i (pc := 29) [.int start] [] (m_X8_isMemory l D cy q σ start) cw_X8_isMemory km_X8_106 ⟨rfl, rfl, by decide, by decide⟩ dX8_run_29 rfl rfl (Nat.le_of_ble_eq_true rfl) (fun r8 => ?_)
        refine g_if_eq (pc := 32) 48 dX8_run_32 (by decide) ?_ ?_
        · refine g_bipush (pc := 48) (-2) dX8_run_48 (by decide) ?_
          exact g_iret (pc := 50) (hro _) rfl dX8_run_50
        · refine g_iload_n (pc := 35) 4 dX8_run_35 rfl rfl ?_
          refine g_iconst (pc := 36) (3) dX8_run_36 (by decide) ?_
          refine gS_i (pc := 37) [.int what, .int (3 : Int32)] [] (m_X8_isWithin l D cy q σ what (3 : Int32)) cw_X8_isWithin km_X8_99 ⟨rfl, rfl, by decide, by decide⟩ dX8_run_37 rfl rfl (Nat.le_of_ble_eq_true rfl) (fun r9 => ?_)
          refine g_if_ne (pc := 40) 51 dX8_run_40 (by decide) ?_ ?_
          · refine g_aload_n (pc := 51) 1 dX8_run_51 rfl rfl ?_
            refine gf_8_programs (pc := 52) kf_X8_14 dX8_run_52 ?_
            refine g_iload_n (pc := 55) 2 dX8_run_55 rfl rfl ?_
            refine g_aald (pc := 56) (k := 3) (t0 := 3) (C0 := RX4) (fun j => 4 + 13 * j) (Nat.le_of_ble_eq_true rfl) rfl (fun _ => rfl) rfl dX8_run_56 (fun k3 h0 => ?_)
            have hk3 := isP_4 h0
            refine g_astore (pc := 57) (lv' := [(5, .ref (q k3)), (4, .int (1 : Int32)), (0, .ref (q 87)), (1, .int program), (2, .int start), (3, .int what)]) dX8_run_57 (Nat.le_of_ble_eq_true rfl) rfl ?_
            refine g_aload (pc := 59) 0 dX8_run_59 rfl ?_
            refine g_iload_n (pc := 61) 4 dX8_run_61 rfl rfl ?_
            refine gV_v (pc := 62) [.int start] [] (m_X4_trace l D cy q σ k3 start hk3) cw_X4_trace km_X8_109 ⟨rfl, rfl, by decide, by decide⟩ (by have := hk3.lt; show k3 < 88; omega) (eX_4 (cy := cy) hk3 (σ.1 k3) (σ.2 k3)) rfl dX8_run_62 rfl rfl (Nat.le_of_ble_eq_true rfl) (fun s3 => ?_)
            refine g_iload_n (pc := 65) 5 dX8_run_65 rfl rfl ?_
            refine g_if (fun c66_0 => ?_) (fun n66_0 => ?_)
            · refine g_tbl (pc := 66) (0) 96 dX8_run_66 (i32_eq (0) rfl c66_0) (by decide) (by decide) rfl (by decide) ?_
              refine g_aload (pc := 96) 0 dX8_run_96 rfl ?_
              refine gf_4_endOf (pc := 98) hk3 kf_X8_112 dX8_run_98 ?_
              refine g_iload_n (pc := 101) 4 dX8_run_101 rfl rfl ?_
              refine a_ild (pc := 102) (aX_4_endOf hk3) dX8_run_102 ?_
              exact g_iret (pc := 103) (hro _) rfl dX8_run_103
            · refine g_if (fun c66_1 => ?_) (fun n66_1 => ?_)
              · refine g_tbl (pc := 66) (1) 104 dX8_run_66 (i32_eq (1) rfl c66_1) (by decide) (by decide) rfl (by decide) ?_
                refine g_aload (pc := 104) 0 dX8_run_104 rfl ?_
                refine gf_4_lastOf (pc := 106) hk3 kf_X8_115 dX8_run_106 ?_
                refine g_iload_n (pc := 109) 4 dX8_run_109 rfl rfl ?_
                refine a_ild (pc := 110) (aX_4_lastOf hk3) dX8_run_110 ?_
                exact g_iret (pc := 111) (hro _) rfl dX8_run_111
              · refine g_if (fun c66_2 => ?_) (fun n66_2 => ?_)
                · refine g_tbl (pc := 66) (2) 112 dX8_run_66 (i32_eq (2) rfl c66_2) (by decide) (by decide) rfl (by decide) ?_
                  refine g_aload (pc := 112) 0 dX8_run_112 rfl ?_
                  refine gf_4_stepsOf (pc := 114) hk3 kf_X8_118 dX8_run_114 ?_
                  refine g_iload_n (pc := 117) 4 dX8_run_117 rfl rfl ?_
                  refine a_ild (pc := 118) (aX_4_stepsOf hk3) dX8_run_118 ?_
                  exact g_iret (pc := 119) (hro _) rfl dX8_run_119
                · refine g_if (fun c66_3 => ?_) (fun n66_3 => ?_)
                  · refine g_tbl (pc := 66) (3) 120 dX8_run_66 (i32_eq (3) rfl c66_3) (by decide) (by decide) rfl (by decide) ?_
                    refine g_aload (pc := 120) 0 dX8_run_120 rfl ?_
                    refine gf_4_showedOf (pc := 122) hk3 kf_X8_121 dX8_run_122 ?_
                    refine g_iload_n (pc := 125) 4 dX8_run_125 rfl rfl ?_
                    refine a_ild (pc := 126) (aX_4_showedOf hk3) dX8_run_126 ?_
                    exact g_iret (pc := 127) (hro _) rfl dX8_run_127
                  · refine g_tblOut (pc := 66) 128 dX8_run_66 (by have e0 := i32_ne (0) rfl n66_0; have e1 := i32_ne (1) rfl n66_1; have e2 := i32_ne (2) rfl n66_2; have e3 := i32_ne (3) rfl n66_3; omega) (by decide) ?_
                    refine g_aload (pc := 128) 0 dX8_run_128 rfl ?_
                    refine g_iload_n (pc := 130) 4 dX8_run_130 rfl rfl ?_
                    refine g_iload_n (pc := 131) 5 dX8_run_131 rfl rfl ?_
                    refine g_bipush (pc := 132) (10) dX8_run_132 (by decide) ?_
                    refine g_isub (pc := 134) dX8_run_134 ?_
                    refine gV_i (pc := 135) [.int start, .int (what - (10 : Int32))] [] (m_X4_shownAt l D cy q s3 k3 start (what - (10 : Int32)) hk3) cw_X4_shownAt km_X8_124 ⟨rfl, rfl, by decide, by decide⟩ (by have := hk3.lt; show k3 < 88; omega) (eX_4 (cy := cy) hk3 (s3.1 k3) (s3.2 k3)) rfl dX8_run_135 rfl rfl (Nat.le_of_ble_eq_true rfl) (fun r10 => ?_)
                    exact g_iret (pc := 138) (hro _) rfl dX8_run_138
          · refine g_iload (pc := 43) 0 dX8_run_43 rfl ?_
            refine g_ifne_y (pc := 45) 51 (by decide) dX8_run_45 (by decide) ?_
            refine g_aload_n (pc := 51) 1 dX8_run_51 rfl rfl ?_
            refine gf_8_programs (pc := 52) kf_X8_14 dX8_run_52 ?_
            refine g_iload_n (pc := 55) 2 dX8_run_55 rfl rfl ?_
            refine g_aald (pc := 56) (k := 3) (t0 := 3) (C0 := RX4) (fun j => 4 + 13 * j) (Nat.le_of_ble_eq_true rfl) rfl (fun _ => rfl) rfl dX8_run_56 (fun k4 h0 => ?_)
            have hk4 := isP_4 h0
            refine g_astore (pc := 57) (lv' := [(5, .ref (q k4)), (4, .int (1 : Int32)), (0, .ref (q 87)), (1, .int program), (2, .int start), (3, .int what)]) dX8_run_57 (Nat.le_of_ble_eq_true rfl) rfl ?_
            refine g_aload (pc := 59) 0 dX8_run_59 rfl ?_
            refine g_iload_n (pc := 61) 4 dX8_run_61 rfl rfl ?_
            refine gV_v (pc := 62) [.int start] [] (m_X4_trace l D cy q σ k4 start hk4) cw_X4_trace km_X8_109 ⟨rfl, rfl, by decide, by decide⟩ (by have := hk4.lt; show k4 < 88; omega) (eX_4 (cy := cy) hk4 (σ.1 k4) (σ.2 k4)) rfl dX8_run_62 rfl rfl (Nat.le_of_ble_eq_true rfl) (fun s4 => ?_)
            refine g_iload_n (pc := 65) 5 dX8_run_65 rfl rfl ?_
            refine g_if (fun c66_0 => ?_) (fun n66_0 => ?_)
            · refine g_tbl (pc := 66) (0) 96 dX8_run_66 (i32_eq (0) rfl c66_0) (by decide) (by decide) rfl (by decide) ?_
              refine g_aload (pc := 96) 0 dX8_run_96 rfl ?_
              refine gf_4_endOf (pc := 98) hk4 kf_X8_112 dX8_run_98 ?_
              refine g_iload_n (pc := 101) 4 dX8_run_101 rfl rfl ?_
              refine a_ild (pc := 102) (aX_4_endOf hk4) dX8_run_102 ?_
              exact g_iret (pc := 103) (hro _) rfl dX8_run_103
            · refine g_if (fun c66_1 => ?_) (fun n66_1 => ?_)
              · refine g_tbl (pc := 66) (1) 104 dX8_run_66 (i32_eq (1) rfl c66_1) (by decide) (by decide) rfl (by decide) ?_
                refine g_aload (pc := 104) 0 dX8_run_104 rfl ?_
                refine gf_4_lastOf (pc := 106) hk4 kf_X8_115 dX8_run_106 ?_
                refine g_iload_n (pc := 109) 4 dX8_run_109 rfl rfl ?_
                refine a_ild (pc := 110) (aX_4_lastOf hk4) dX8_run_110 ?_
                exact g_iret (pc := 111) (hro _) rfl dX8_run_111
              · refine g_if (fun c66_2 => ?_) (fun n66_2 => ?_)
                · refine g_tbl (pc := 66) (2) 112 dX8_run_66 (i32_eq (2) rfl c66_2) (by decide) (by decide) rfl (by decide) ?_
                  refine g_aload (pc := 112) 0 dX8_run_112 rfl ?_
                  refine gf_4_stepsOf (pc := 114) hk4 kf_X8_118 dX8_run_114 ?_
                  refine g_iload_n (pc := 117) 4 dX8_run_117 rfl rfl ?_
                  refine a_ild (pc := 118) (aX_4_stepsOf hk4) dX8_run_118 ?_
                  exact g_iret (pc := 119) (hro _) rfl dX8_run_119
                · refine g_if (fun c66_3 => ?_) (fun n66_3 => ?_)
                  · refine g_tbl (pc := 66) (3) 120 dX8_run_66 (i32_eq (3) rfl c66_3) (by decide) (by decide) rfl (by decide) ?_
                    refine g_aload (pc := 120) 0 dX8_run_120 rfl ?_
                    refine gf_4_showedOf (pc := 122) hk4 kf_X8_121 dX8_run_122 ?_
                    refine g_iload_n (pc := 125) 4 dX8_run_125 rfl rfl ?_
                    refine a_ild (pc := 126) (aX_4_showedOf hk4) dX8_run_126 ?_
                    exact g_iret (pc := 127) (hro _) rfl dX8_run_127
                  · refine g_tblOut (pc := 66) 128 dX8_run_66 (by have e0 := i32_ne (0) rfl n66_0; have e1 := i32_ne (1) rfl n66_1; have e2 := i32_ne (2) rfl n66_2; have e3 := i32_ne (3) rfl n66_3; omega) (by decide) ?_
                    refine g_aload (pc := 128) 0 dX8_run_128 rfl ?_
                    refine g_iload_n (pc := 130) 4 dX8_run_130 rfl rfl ?_
                    refine g_iload_n (pc := 131) 5 dX8_run_131 rfl rfl ?_
                    refine g_bipush (pc := 132) (10) dX8_run_132 (by decide) ?_
                    refine g_isub (pc := 134) dX8_run_134 ?_
                    refine gV_i (pc := 135) [.int start, .int (what - (10 : Int32))] [] (m_X4_shownAt l D cy q s4 k4 start (what - (10 : Int32)) hk4) cw_X4_shownAt km_X8_124 ⟨rfl, rfl, by decide, by decide⟩ (by have := hk4.lt; show k4 < 88; omega) (eX_4 (cy := cy) hk4 (s4.1 k4) (s4.2 k4)) rfl dX8_run_135 rfl rfl (Nat.le_of_ble_eq_true rfl) (fun r11 => ?_)
                    exact g_iret (pc := 138) (hro _) rfl dX8_run_138
  · refine g_iconst (pc := 7) (-1) dX8_run_7 (by decide) ?_
    exact g_iret (pc := 8) (hro _) rfl dX8_run_8
def f_X8_say (sign : Int32) (σ : St) : Option (Int32 × St) := (if sign < (33 : Int32) then some ((-2 : Int32), σ) else (if sign ≤ (126 : Int32) then (if (σ.1 69 1) < (40 : Int32) then chk (inb (σ.1 69 1) 40) (nm (stI σ (69 + 1) (σ.1 69 1).toNatClampNeg sign) fun s1 => nm (stI s1 69 1 ((s1.1 69 1) + (1 : Int32))) fun s2 => some ((s2.1 69 1), s2)) else some ((-4 : Int32), σ)) else some ((-2 : Int32), σ)))
abbrev rm_X8_say : Room := { frames := 0, cells := 0, slots := 0, locals := 0 }
set_option maxHeartbeats 4000000 in
set_option maxRecDepth 20000 in
theorem m_X8_say (l : Launch) (D : va_G) (cy : Cy) (q : Nat → Nat) (σ : St) (sign : Int32)  : ∀ res, f_X8_say sign σ = some res → MetX (vX D cy q) l yX8_say cX8_say 2 (some .int) rm_X8_say [.ref (q 87), .int sign] σ (some (.int res.1), res.2) := by
  let fin_ : (Int32 × St) → Option Value × St := fun r => (some (.int r.1), r.2)
  have hro : ∀ (z : Int32 × St) (res : Int32 × St), some z = some res → fin_ res = fin_ z := fun z res h => by cases h; rfl
  refine MetX.of1 (fin := fin_) (lv := [(0, .ref (q 87)), (1, .int sign)]) (by decide) (Nat.le_of_ble_eq_true rfl) rfl ?_
  unfold f_X8_say
  refine g_iload_n (pc := 0) 1 dX8_say_0 rfl rfl ?_
  refine g_bipush (pc := 1) (33) dX8_say_1 (by decide) ?_
  refine g_icmp_lt (pc := 3) 12 dX8_say_3 (by decide) ?_ ?_
  · refine g_bipush (pc := 12) (-2) dX8_say_12 (by decide) ?_
    exact g_iret (pc := 14) (hro _) rfl dX8_say_14
  · refine g_iload_n (pc := 6) 1 dX8_say_6 rfl rfl ?_
    refine g_bipush (pc := 7) (126) dX8_say_7 (by decide) ?_
    refine g_icmp_le (pc := 9) 15 dX8_say_9 (by decide) ?_ ?_
    · refine g_aload_n (pc := 15) 0 dX8_say_15 rfl rfl ?_
      refine gf_8_draft (pc := 16) kf_X8_32 dX8_say_16 ?_
      refine gf_5_size (pc := 19) isS_69 kf_X8_128 dX8_say_19 ?_
      refine g_bipush (pc := 22) (40) dX8_say_22 (by decide) ?_
      refine g_icmp_lt (pc := 24) 30 dX8_say_24 (by decide) ?_ ?_
      · refine g_aload_n (pc := 30) 0 dX8_say_30 rfl rfl ?_
        refine gf_8_draft (pc := 31) kf_X8_32 dX8_say_31 ?_
        refine gf_5_signs (pc := 34) isS_69 kf_X8_129 dX8_say_34 ?_
        refine g_aload_n (pc := 37) 0 dX8_say_37 rfl rfl ?_
        refine gf_8_draft (pc := 38) kf_X8_32 dX8_say_38 ?_
        refine gf_5_size (pc := 41) isS_69 kf_X8_128 dX8_say_41 ?_
        refine g_iload_n (pc := 44) 1 dX8_say_44 rfl rfl ?_
        refine a_ist (pc := 45) (aX_5_signs isS_69) dX8_say_45 (fun s1 => ?_)
        refine g_aload_n (pc := 46) 0 dX8_say_46 rfl rfl ?_
        refine gf_8_draft (pc := 47) kf_X8_32 dX8_say_47 ?_
        refine g_dup (pc := 50) dX8_say_50 rfl ?_
        refine gf_5_size (pc := 51) isS_69 kf_X8_128 dX8_say_51 ?_
        refine g_iconst (pc := 54) (1) dX8_say_54 (by decide) ?_
        refine g_iadd (pc := 55) dX8_say_55 ?_
        refine gp_5_size (pc := 56) isS_69 kf_X8_128 dX8_say_56 (fun s2 => ?_)
        refine g_aload_n (pc := 59) 0 dX8_say_59 rfl rfl ?_
        refine gf_8_draft (pc := 60) kf_X8_32 dX8_say_60 ?_
        refine gf_5_size (pc := 63) isS_69 kf_X8_128 dX8_say_63 ?_
        exact g_iret (pc := 66) (hro _) rfl dX8_say_66
      · refine g_bipush (pc := 27) (-4) dX8_say_27 (by decide) ?_
        exact g_iret (pc := 29) (hro _) rfl dX8_say_29
    · refine g_bipush (pc := 12) (-2) dX8_say_12 (by decide) ?_
      exact g_iret (pc := 14) (hro _) rfl dX8_say_14
def f_X8_wipe (σ : St) : Option (Int32 × St) := nm (σ.1 69 1) fun x1 => nm (stI σ 69 1 (0 : Int32)) fun s1 => some (x1, s1)
abbrev rm_X8_wipe : Room := { frames := 0, cells := 0, slots := 0, locals := 0 }
set_option maxHeartbeats 4000000 in
set_option maxRecDepth 20000 in
theorem m_X8_wipe (l : Launch) (D : va_G) (cy : Cy) (q : Nat → Nat) (σ : St)  : ∀ res, f_X8_wipe σ = some res → MetX (vX D cy q) l yX8_wipe cX8_wipe 2 (some .int) rm_X8_wipe [.ref (q 87)] σ (some (.int res.1), res.2) := by
  let fin_ : (Int32 × St) → Option Value × St := fun r => (some (.int r.1), r.2)
  have hro : ∀ (z : Int32 × St) (res : Int32 × St), some z = some res → fin_ res = fin_ z := fun z res h => by cases h; rfl
  refine MetX.of1 (fin := fin_) (lv := [(0, .ref (q 87))]) (by decide) (Nat.le_of_ble_eq_true rfl) rfl ?_
  unfold f_X8_wipe
  refine g_aload_n (pc := 0) 0 dX8_wipe_0 rfl rfl ?_
  refine gf_8_draft (pc := 1) kf_X8_32 dX8_wipe_1 ?_
  refine gf_5_size (pc := 4) isS_69 kf_X8_128 dX8_wipe_4 ?_
  refine g_nmi (fun x1 => ?_)
  refine g_istore_n (pc := 7) (lv' := [(1, .int x1), (0, .ref (q 87))]) dX8_wipe_7 rfl (Nat.le_of_ble_eq_true rfl) rfl ?_
  refine g_aload_n (pc := 8) 1 dX8_wipe_8 rfl rfl ?_
  refine gf_8_draft (pc := 9) kf_X8_32 dX8_wipe_9 ?_
  refine g_iconst (pc := 12) (0) dX8_wipe_12 (by decide) ?_
  refine gp_5_size (pc := 13) isS_69 kf_X8_128 dX8_wipe_13 (fun s1 => ?_)
  refine g_iload_n (pc := 16) 0 dX8_wipe_16 rfl rfl ?_
  exact g_iret (pc := 17) (hro _) rfl dX8_wipe_17
def f_X8_fault (σ : St) : Option (Int32) := (f_X5_firstFault 69 σ).bind fun r1 => some r1
abbrev rm_X8_fault : Room := { frames := 3, cells := 0, slots := 0, locals := 65 }
set_option maxHeartbeats 4000000 in
set_option maxRecDepth 20000 in
theorem m_X8_fault (l : Launch) (D : va_G) (cy : Cy) (q : Nat → Nat) (σ : St)  : ∀ res, f_X8_fault σ = some res → MetX (vX D cy q) l yX8_fault cX8_fault 1 (some .int) rm_X8_fault [.ref (q 87)] σ (some (.int res), σ) := by
  let fin_ : Int32 → Option Value × St := fun r => (some (.int r), σ)
  have hro : ∀ (z : Int32) (res : Int32), some z = some res → fin_ res = fin_ z := fun z res h => by cases h; rfl
  refine MetX.of1 (fin := fin_) (lv := [(0, .ref (q 87))]) (by decide) (Nat.le_of_ble_eq_true rfl) rfl ?_
  unfold f_X8_fault
  refine g_aload_n (pc := 0) 0 dX8_fault_0 rfl rfl ?_
  refine gf_8_draft (pc := 1) kf_X8_32 dX8_fault_1 ?_
  refine gV_i (pc := 4) [] [] (m_X5_firstFault l D cy q σ 69 isS_69) cw_X5_firstFault km_X8_132 ⟨rfl, rfl, by decide, by decide⟩ (by have := isS_69.lt; show 69 < 88; omega) (eX_5 (cy := cy) isS_69 (σ.1 69) (σ.2 69)) rfl dX8_fault_4 rfl rfl (Nat.le_of_ble_eq_true rfl) (fun r1 => ?_)
  exact g_iret (pc := 7) (hro _) rfl dX8_fault_7
def f_X8_saying (σ : St) : Option (Int32 × St) := (if (σ.1 87 2) < (6 : Int32) then (f_X5_firstFault 69 σ).bind fun r1 => (if r1 = (-6 : Int32) then chk (inb (σ.1 87 2) 6) (nm (57 + 2 * (σ.1 87 2).toNatClampNeg) fun k1 => (f_X5_take k1 69 σ).bind fun s1 => nm (stI s1 69 1 (0 : Int32)) fun s2 => nm (stI s2 87 2 ((s2.1 87 2) + (1 : Int32))) fun s3 => some (((s3.1 87 2) - (1 : Int32)), s3)) else some ((-5 : Int32), σ)) else some ((-4 : Int32), σ))
abbrev rm_X8_saying : Room := { frames := 3, cells := 0, slots := 0, locals := 70 }
set_option maxHeartbeats 4000000 in
set_option maxRecDepth 20000 in
theorem m_X8_saying (l : Launch) (D : va_G) (cy : Cy) (q : Nat → Nat) (σ : St)  : ∀ res, f_X8_saying σ = some res → MetX (vX D cy q) l yX8_saying cX8_saying 1 (some .int) rm_X8_saying [.ref (q 87)] σ (some (.int res.1), res.2) := by
  let fin_ : (Int32 × St) → Option Value × St := fun r => (some (.int r.1), r.2)
  have hro : ∀ (z : Int32 × St) (res : Int32 × St), some z = some res → fin_ res = fin_ z := fun z res h => by cases h; rfl
  refine MetX.of1 (fin := fin_) (lv := [(0, .ref (q 87))]) (by decide) (Nat.le_of_ble_eq_true rfl) rfl ?_
  unfold f_X8_saying
  refine g_aload_n (pc := 0) 0 dX8_saying_0 rfl rfl ?_
  refine gf_8_sayingCount (pc := 1) kf_X8_28 dX8_saying_1 ?_
  refine g_bipush (pc := 4) (6) dX8_saying_4 (by decide) ?_
  refine g_icmp_lt (pc := 6) 12 dX8_saying_6 (by decide) ?_ ?_
  · refine g_aload_n (pc := 12) 0 dX8_saying_12 rfl rfl ?_
    refine gf_8_draft (pc := 13) kf_X8_32 dX8_saying_13 ?_
    refine gV_i (pc := 16) [] [] (m_X5_firstFault l D cy q σ 69 isS_69) cw_X5_firstFault km_X8_132 ⟨rfl, rfl, by decide, by decide⟩ (by have := isS_69.lt; show 69 < 88; omega) (eX_5 (cy := cy) isS_69 (σ.1 69) (σ.2 69)) rfl dX8_saying_16 rfl rfl (Nat.le_of_ble_eq_true rfl) (fun r1 => ?_)
    refine g_bipush (pc := 19) (-6) dX8_saying_19 (by decide) ?_
    refine g_icmp_eq (pc := 21) 27 dX8_saying_21 (by decide) ?_ ?_
    · refine g_aload_n (pc := 27) 0 dX8_saying_27 rfl rfl ?_
      refine gf_8_sayings (pc := 28) kf_X8_23 dX8_saying_28 ?_
      refine g_aload_n (pc := 31) 0 dX8_saying_31 rfl rfl ?_
      refine gf_8_sayingCount (pc := 32) kf_X8_28 dX8_saying_32 ?_
      refine g_aald (pc := 35) (k := 56) (t0 := 4) (C0 := RX5) (fun j => 57 + 2 * j) (Nat.le_of_ble_eq_true rfl) rfl (fun _ => rfl) rfl dX8_saying_35 (fun k1 h0 => ?_)
      have hk1 := isS_6 h0
      refine g_aload_n (pc := 36) 0 dX8_saying_36 rfl rfl ?_
      refine gf_8_draft (pc := 37) kf_X8_32 dX8_saying_37 ?_
      refine gV_v (pc := 40) [.ref (q 69)] [] (m_X5_take l D cy q σ k1 69 hk1 isS_69) cw_X5_take km_X8_136 ⟨rfl, rfl, by decide, by decide⟩ (by have := hk1.lt; show k1 < 88; omega) (eX_5 (cy := cy) hk1 (σ.1 k1) (σ.2 k1)) rfl dX8_saying_40 rfl rfl (Nat.le_of_ble_eq_true rfl) (fun s1 => ?_)
      refine g_aload_n (pc := 43) 0 dX8_saying_43 rfl rfl ?_
      refine gf_8_draft (pc := 44) kf_X8_32 dX8_saying_44 ?_
      refine g_iconst (pc := 47) (0) dX8_saying_47 (by decide) ?_
      refine gp_5_size (pc := 48) isS_69 kf_X8_128 dX8_saying_48 (fun s2 => ?_)
      refine g_aload_n (pc := 51) 0 dX8_saying_51 rfl rfl ?_
      refine g_dup (pc := 52) dX8_saying_52 rfl ?_
      refine gf_8_sayingCount (pc := 53) kf_X8_28 dX8_saying_53 ?_
      refine g_iconst (pc := 56) (1) dX8_saying_56 (by decide) ?_
      refine g_iadd (pc := 57) dX8_saying_57 ?_
      refine gp_8_sayingCount (pc := 58) kf_X8_28 dX8_saying_58 (fun s3 => ?_)
      refine g_aload_n (pc := 61) 0 dX8_saying_61 rfl rfl ?_
      refine gf_8_sayingCount (pc := 62) kf_X8_28 dX8_saying_62 ?_
      refine g_iconst (pc := 65) (1) dX8_saying_65 (by decide) ?_
      refine g_isub (pc := 66) dX8_saying_66 ?_
      exact g_iret (pc := 67) (hro _) rfl dX8_saying_67
    · refine g_bipush (pc := 24) (-5) dX8_saying_24 (by decide) ?_
      exact g_iret (pc := 26) (hro _) rfl dX8_saying_26
  · refine g_bipush (pc := 9) (-4) dX8_saying_9 (by decide) ?_
    exact g_iret (pc := 11) (hro _) rfl dX8_saying_11
def f_X8_isSaying (saying : Int32) (σ : St) : Option (Int32) := (f_X8_isWithin saying ((σ.1 87 2) - (1 : Int32))).bind fun r1 => chk (isb r1) (some r1)
abbrev rm_X8_isSaying : Room := { frames := 1, cells := 0, slots := 0, locals := 21 }
set_option maxHeartbeats 4000000 in
set_option maxRecDepth 20000 in
theorem m_X8_isSaying (l : Launch) (D : va_G) (cy : Cy) (q : Nat → Nat) (σ : St) (saying : Int32)  : ∀ res, f_X8_isSaying saying σ = some res → MetX (vX D cy q) l yX8_isSaying cX8_isSaying 2 (some .boolean) rm_X8_isSaying [.ref (q 87), .int saying] σ (some (.int res), σ) := by
  let fin_ : Int32 → Option Value × St := fun r => (some (.int r), σ)
  have hro : ∀ (z : Int32) (res : Int32), some z = some res → fin_ res = fin_ z := fun z res h => by cases h; rfl
  refine MetX.of1 (fin := fin_) (lv := [(0, .ref (q 87)), (1, .int saying)]) (by decide) (Nat.le_of_ble_eq_true rfl) rfl ?_
  unfold f_X8_isSaying
  refine g_iload_n (pc := 0) 1 dX8_isSaying_0 rfl rfl ?_
  refine g_aload_n (pc := 1) 0 dX8_isSaying_1 rfl rfl ?_
  refine gf_8_sayingCount (pc := 2) kf_X8_28 dX8_isSaying_2 ?_
  refine g_iconst (pc := 5) (1) dX8_isSaying_5 (by decide) ?_
  refine g_isub (pc := 6) dX8_isSaying_6 ?_
  refine gS_i (pc := 7) [.int saying, .int ((σ.1 87 2) - (1 : Int32))] [] (m_X8_isWithin l D cy q σ saying ((σ.1 87 2) - (1 : Int32))) cw_X8_isWithin km_X8_99 ⟨rfl, rfl, by decide, by decide⟩ dX8_isSaying_7 rfl rfl (Nat.le_of_ble_eq_true rfl) (fun r1 => ?_)
  exact g_chk fun hb => g_zret (pc := 10) hb (hro _) rfl dX8_isSaying_10
def f_X8_pair (saying : Int32) (p : Int32) (start : Int32) (q_ : Int32) (other : Int32) (what : Int32) (σ : St) : Option (Int32 × St) := (f_X8_isSaying saying σ).bind fun r1 => (if r1 = (0 : Int32) then some ((-1 : Int32), σ) else (f_X8_isProgram p).bind fun r2 => (if r2 = (0 : Int32) then some ((-1 : Int32), σ) else (f_X8_isProgram q_).bind fun r3 => (if r3 = (0 : Int32) then some ((-1 : Int32), σ) else (f_X8_isMemory start).bind fun r4 => (if r4 = (0 : Int32) then some ((-2 : Int32), σ) else (f_X8_isMemory other).bind fun r5 => (if r5 = (0 : Int32) then some ((-2 : Int32), σ) else (f_X8_isWithin what (1 : Int32)).bind fun r6 => (if r6 = (0 : Int32) then some ((-2 : Int32), σ) else chk (inb p 4) (nm (4 + 13 * p.toNatClampNeg) fun k1 => (f_X4_trace k1 start σ).bind fun s1 => chk (inb q_ 4) (nm (4 + 13 * q_.toNatClampNeg) fun k2 => (f_X4_trace k2 other s1).bind fun s2 => chk (inb saying 6) (nm (57 + 2 * saying.toNatClampNeg) fun k3 => chk (inb p 4) (nm (4 + 13 * p.toNatClampNeg) fun k4 => (f_X0_take k3 k4 start s2).bind fun s3 => (f_X0_isMeant other s3).bind fun r7 => (if r7 = (0 : Int32) then some ((0 : Int32), s3) else (if what = (0 : Int32) then some ((1 : Int32), s3) else chk (inb q_ 4) (nm (4 + 13 * q_.toNatClampNeg) fun k5 => (f_X0_isBroken k5 other s3).bind fun r8 => (if r8 = (0 : Int32) then some ((0 : Int32), s3) else some ((1 : Int32), s3)))))))))))))))
abbrev rm_X8_pair : Room := { frames := 4, cells := 0, slots := 0, locals := 93 }
set_option maxHeartbeats 4000000 in
set_option maxRecDepth 20000 in
theorem m_X8_pair (l : Launch) (D : va_G) (cy : Cy) (q : Nat → Nat) (σ : St) (saying : Int32) (p : Int32) (start : Int32) (q_ : Int32) (other : Int32) (what : Int32)  : ∀ res, f_X8_pair saying p start q_ other what σ = some res → MetX (vX D cy q) l yX8_pair cX8_pair 8 (some .int) rm_X8_pair [.ref (q 87), .int saying, .int p, .int start, .int q_, .int other, .int what] σ (some (.int res.1), res.2) := by
  let fin_ : (Int32 × St) → Option Value × St := fun r => (some (.int r.1), r.2)
  have hro : ∀ (z : Int32 × St) (res : Int32 × St), some z = some res → fin_ res = fin_ z := fun z res h => by cases h; rfl
  refine MetX.of1 (fin := fin_) (lv := [(0, .ref (q 87)), (1, .int saying), (2, .int p), (3, .int start), (4, .int q_), (5, .int other), (6, .int what)]) (by decide) (Nat.le_of_ble_eq_true rfl) rfl ?_
  unfold f_X8_pair
  refine g_aload_n (pc := 0) 0 dX8_pair_0 rfl rfl ?_
  refine g_iload_n (pc := 1) 1 dX8_pair_1 rfl rfl ?_
  refine gV_i (pc := 2) [.int saying] [] (m_X8_isSaying l D cy q σ saying) cw_X8_isSaying km_X8_140 ⟨rfl, rfl, by decide, by decide⟩ (Nat.le_of_ble_eq_true rfl) (eX_8 (cy := cy) (σ.1 87) (σ.2 87)) rfl dX8_pair_2 rfl rfl (Nat.le_of_ble_eq_true rfl) (fun r1 => ?_)
  refine g_if_eq (pc := 5) 23 dX8_pair_5 (by decide) ?_ ?_
  · refine g_iconst (pc := 23) (-1) dX8_pair_23 (by decide) ?_
    exact g_iret (pc := 24) (hro _) rfl dX8_pair_24
  · refine g_iload_n (pc := 8) 2 dX8_pair_8 rfl rfl ?_
    refine gS_i (pc := 9) [.int p] [] (m_X8_isProgram l D cy q σ p) cw_X8_isProgram km_X8_73 ⟨rfl, rfl, by decide, by decide⟩ dX8_pair_9 rfl rfl (Nat.le_of_ble_eq_true rfl) (fun r2 => ?_)
    refine g_if_eq (pc := 12) 23 dX8_pair_12 (by decide) ?_ ?_
    · refine g_iconst (pc := 23) (-1) dX8_pair_23 (by decide) ?_
      exact g_iret (pc := 24) (hro _) rfl dX8_pair_24
    · refine g_iload (pc := 15) 4 dX8_pair_15 rfl ?_
      refine gS_i (pc := 17) [.int q_] [] (m_X8_isProgram l D cy q σ q_) cw_X8_isProgram km_X8_73 ⟨rfl, rfl, by decide, by decide⟩ dX8_pair_17 rfl rfl (Nat.le_of_ble_eq_true rfl) (fun r3 => ?_)
      refine g_if_ne (pc := 20) 25 dX8_pair_20 (by decide) ?_ ?_
      · refine g_iload_n (pc := 25) 3 dX8_pair_25 rfl rfl ?_
        refine gS_i (pc := 26) [.int start] [] (m_X8_isMemory l D cy q σ start) cw_X8_isMemory km_X8_106 ⟨rfl, rfl, by decide, by decide⟩ dX8_pair_26 rfl rfl (Nat.le_of_ble_eq_true rfl) (fun r4 => ?_)
        refine g_if_eq (pc := 29) 49 dX8_pair_29 (by decide) ?_ ?_
        · refine g_bipush (pc := 49) (-2) dX8_pair_49 (by decide) ?_
          exact g_iret (pc := 51) (hro _) rfl dX8_pair_51
        · refine g_iload (pc := 32) 5 dX8_pair_32 rfl ?_
          refine gS_i (pc := 34) [.int other] [] (m_X8_isMemory l D cy q σ other) cw_X8_isMemory km_X8_106 ⟨rfl, rfl, by decide, by decide⟩ dX8_pair_34 rfl rfl (Nat.le_of_ble_eq_true rfl) (fun r5 => ?_)
          refine g_if_eq (pc := 37) 49 dX8_pair_37 (by decide) ?_ ?_
          · refine g_bipush (pc := 49) (-2) dX8_pair_49 (by decide) ?_
            exact g_iret (pc := 51) (hro _) rfl dX8_pair_51
          · refine g_iload (pc := 40) 6 dX8_pair_40 rfl ?_
            refine g_iconst (pc := 42) (1) dX8_pair_42 (by decide) ?_
            refine gS_i (pc := 43) [.int what, .int (1 : Int32)] [] (m_X8_isWithin l D cy q σ what (1 : Int32)) cw_X8_isWithin km_X8_99 ⟨rfl, rfl, by decide, by decide⟩ dX8_pair_43 rfl rfl (Nat.le_of_ble_eq_true rfl) (fun r6 => ?_)
            refine g_if_ne (pc := 46) 52 dX8_pair_46 (by decide) ?_ ?_
            · refine g_aload_n (pc := 52) 0 dX8_pair_52 rfl rfl ?_
              refine gf_8_programs (pc := 53) kf_X8_14 dX8_pair_53 ?_
              refine g_iload_n (pc := 56) 2 dX8_pair_56 rfl rfl ?_
              refine g_aald (pc := 57) (k := 3) (t0 := 3) (C0 := RX4) (fun j => 4 + 13 * j) (Nat.le_of_ble_eq_true rfl) rfl (fun _ => rfl) rfl dX8_pair_57 (fun k1 h0 => ?_)
              have hk1 := isP_4 h0
              refine g_iload_n (pc := 58) 3 dX8_pair_58 rfl rfl ?_
              refine gV_v (pc := 59) [.int start] [] (m_X4_trace l D cy q σ k1 start hk1) cw_X4_trace km_X8_109 ⟨rfl, rfl, by decide, by decide⟩ (by have := hk1.lt; show k1 < 88; omega) (eX_4 (cy := cy) hk1 (σ.1 k1) (σ.2 k1)) rfl dX8_pair_59 rfl rfl (Nat.le_of_ble_eq_true rfl) (fun s1 => ?_)
              refine g_aload_n (pc := 62) 0 dX8_pair_62 rfl rfl ?_
              refine gf_8_programs (pc := 63) kf_X8_14 dX8_pair_63 ?_
              refine g_iload (pc := 66) 4 dX8_pair_66 rfl ?_
              refine g_aald (pc := 68) (k := 3) (t0 := 3) (C0 := RX4) (fun j => 4 + 13 * j) (Nat.le_of_ble_eq_true rfl) rfl (fun _ => rfl) rfl dX8_pair_68 (fun k2 h0 => ?_)
              have hk2 := isP_4 h0
              refine g_iload (pc := 69) 5 dX8_pair_69 rfl ?_
              refine gV_v (pc := 71) [.int other] [] (m_X4_trace l D cy q s1 k2 other hk2) cw_X4_trace km_X8_109 ⟨rfl, rfl, by decide, by decide⟩ (by have := hk2.lt; show k2 < 88; omega) (eX_4 (cy := cy) hk2 (s1.1 k2) (s1.2 k2)) rfl dX8_pair_71 rfl rfl (Nat.le_of_ble_eq_true rfl) (fun s2 => ?_)
              refine g_aload_n (pc := 74) 0 dX8_pair_74 rfl rfl ?_
              refine gf_8_asked (pc := 75) kf_X8_39 dX8_pair_75 ?_
              refine g_aload_n (pc := 78) 0 dX8_pair_78 rfl rfl ?_
              refine gf_8_sayings (pc := 79) kf_X8_23 dX8_pair_79 ?_
              refine g_iload_n (pc := 82) 1 dX8_pair_82 rfl rfl ?_
              refine g_aald (pc := 83) (k := 56) (t0 := 4) (C0 := RX5) (fun j => 57 + 2 * j) (Nat.le_of_ble_eq_true rfl) rfl (fun _ => rfl) rfl dX8_pair_83 (fun k3 h0 => ?_)
              have hk3 := isS_6 h0
              refine g_aload_n (pc := 84) 0 dX8_pair_84 rfl rfl ?_
              refine gf_8_programs (pc := 85) kf_X8_14 dX8_pair_85 ?_
              refine g_iload_n (pc := 88) 2 dX8_pair_88 rfl rfl ?_
              refine g_aald (pc := 89) (k := 3) (t0 := 3) (C0 := RX4) (fun j => 4 + 13 * j) (Nat.le_of_ble_eq_true rfl) rfl (fun _ => rfl) rfl dX8_pair_89 (fun k4 h0 => ?_)
              have hk4 := isP_4 h0
              refine g_iload_n (pc := 90) 3 dX8_pair_90 rfl rfl ?_
              refine gV_v (pc := 91) [.ref (q k3), .ref (q k4), .int start] [] (m_X0_take l D cy q s2 k3 k4 start hk3 hk4) cw_X0_take km_X8_143 ⟨rfl, rfl, by decide, by decide⟩ (Nat.le_of_ble_eq_true rfl) (eX_0 (cy := cy) (s2.1 71) (s2.2 71)) rfl dX8_pair_91 rfl rfl (Nat.le_of_ble_eq_true rfl) (fun s3 => ?_)
              refine g_aload_n (pc := 94) 0 dX8_pair_94 rfl rfl ?_
              refine gf_8_asked (pc := 95) kf_X8_39 dX8_pair_95 ?_
              refine g_iload (pc := 98) 5 dX8_pair_98 rfl ?_
              refine gV_i (pc := 100) [.int other] [] (m_X0_isMeant l D cy q s3 other) cw_X0_isMeant km_X8_146 ⟨rfl, rfl, by decide, by decide⟩ (Nat.le_of_ble_eq_true rfl) (eX_0 (cy := cy) (s3.1 71) (s3.2 71)) rfl dX8_pair_100 rfl rfl (Nat.le_of_ble_eq_true rfl) (fun r7 => ?_)
              refine g_if_eq (pc := 103) 134 dX8_pair_103 (by decide) ?_ ?_
              · refine g_iconst (pc := 134) (0) dX8_pair_134 (by decide) ?_
                refine g_istore (pc := 135) (lv' := [(7, .int (0 : Int32)), (0, .ref (q 87)), (1, .int saying), (2, .int p), (3, .int start), (4, .int q_), (5, .int other), (6, .int what)]) dX8_pair_135 (Nat.le_of_ble_eq_true rfl) rfl ?_
                refine g_iload (pc := 137) 0 dX8_pair_137 rfl ?_
                refine g_ifeq_y (pc := 139) 146 (by decide) dX8_pair_139 (by decide) ?_
                refine g_iconst (pc := 146) (0) dX8_pair_146 (by decide) ?_
                exact g_iret (pc := 147) (hro _) rfl dX8_pair_147
              · refine g_iload (pc := 106) 6 dX8_pair_106 rfl ?_
                refine g_if_eq (pc := 108) 130 dX8_pair_108 (by decide) ?_ ?_
                · refine g_iconst (pc := 130) (1) dX8_pair_130 (by decide) ?_
                  refine g_goto (pc := 131) 135 dX8_pair_131 (by decide) ?_
                  refine g_istore (pc := 135) (lv' := [(7, .int (1 : Int32)), (0, .ref (q 87)), (1, .int saying), (2, .int p), (3, .int start), (4, .int q_), (5, .int other), (6, .int what)]) dX8_pair_135 (Nat.le_of_ble_eq_true rfl) rfl ?_
                  refine g_iload (pc := 137) 0 dX8_pair_137 rfl ?_
                  refine g_ifeq_n (pc := 139) 146 (by decide) dX8_pair_139 (by decide) ?_
                  refine g_iconst (pc := 142) (1) dX8_pair_142 (by decide) ?_
                  refine g_goto (pc := 143) 147 dX8_pair_143 (by decide) ?_
                  exact g_iret (pc := 147) (hro _) rfl dX8_pair_147
                · refine g_aload_n (pc := 111) 0 dX8_pair_111 rfl rfl ?_
                  refine gf_8_asked (pc := 112) kf_X8_39 dX8_pair_112 ?_
                  refine g_aload_n (pc := 115) 0 dX8_pair_115 rfl rfl ?_
                  refine gf_8_programs (pc := 116) kf_X8_14 dX8_pair_116 ?_
                  refine g_iload (pc := 119) 4 dX8_pair_119 rfl ?_
                  refine g_aald (pc := 121) (k := 3) (t0 := 3) (C0 := RX4) (fun j => 4 + 13 * j) (Nat.le_of_ble_eq_true rfl) rfl (fun _ => rfl) rfl dX8_pair_121 (fun k5 h0 => ?_)
                  have hk5 := isP_4 h0
                  refine g_iload (pc := 122) 5 dX8_pair_122 rfl ?_
                  refine gV_i (pc := 124) [.ref (q k5), .int other] [] (m_X0_isBroken l D cy q s3 k5 other hk5) cw_X0_isBroken km_X8_149 ⟨rfl, rfl, by decide, by decide⟩ (Nat.le_of_ble_eq_true rfl) (eX_0 (cy := cy) (s3.1 71) (s3.2 71)) rfl dX8_pair_124 rfl rfl (Nat.le_of_ble_eq_true rfl) (fun r8 => ?_)
                  refine g_if_eq (pc := 127) 134 dX8_pair_127 (by decide) ?_ ?_
                  · refine g_iconst (pc := 134) (0) dX8_pair_134 (by decide) ?_
                    refine g_istore (pc := 135) (lv' := [(7, .int (0 : Int32)), (0, .ref (q 87)), (1, .int saying), (2, .int p), (3, .int start), (4, .int q_), (5, .int other), (6, .int what)]) dX8_pair_135 (Nat.le_of_ble_eq_true rfl) rfl ?_
                    refine g_iload (pc := 137) 0 dX8_pair_137 rfl ?_
                    refine g_ifeq_y (pc := 139) 146 (by decide) dX8_pair_139 (by decide) ?_
                    refine g_iconst (pc := 146) (0) dX8_pair_146 (by decide) ?_
                    exact g_iret (pc := 147) (hro _) rfl dX8_pair_147
                  · refine g_iconst (pc := 130) (1) dX8_pair_130 (by decide) ?_
                    refine g_goto (pc := 131) 135 dX8_pair_131 (by decide) ?_
                    refine g_istore (pc := 135) (lv' := [(7, .int (1 : Int32)), (0, .ref (q 87)), (1, .int saying), (2, .int p), (3, .int start), (4, .int q_), (5, .int other), (6, .int what)]) dX8_pair_135 (Nat.le_of_ble_eq_true rfl) rfl ?_
                    refine g_iload (pc := 137) 0 dX8_pair_137 rfl ?_
                    refine g_ifeq_n (pc := 139) 146 (by decide) dX8_pair_139 (by decide) ?_
                    refine g_iconst (pc := 142) (1) dX8_pair_142 (by decide) ?_
                    refine g_goto (pc := 143) 147 dX8_pair_143 (by decide) ?_
                    exact g_iret (pc := 147) (hro _) rfl dX8_pair_147
            · refine g_bipush (pc := 49) (-2) dX8_pair_49 (by decide) ?_
              exact g_iret (pc := 51) (hro _) rfl dX8_pair_51
      · refine g_iconst (pc := 23) (-1) dX8_pair_23 (by decide) ?_
        exact g_iret (pc := 24) (hro _) rfl dX8_pair_24
