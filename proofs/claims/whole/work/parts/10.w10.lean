def b_X9_fault_6 (σ : St) : (Int32 × Int32 × Int32) → Option ((Int32 × Int32 × Int32) ⊕ ((Int32 × Int32) ⊕ (Int32))) := un fun y1 => un fun y2 y3 => chk (inb (6 : Int32) 7) ((if (σ.1 15 (6 : Int32).toNatClampNeg) ≤ y3 then some (.inr (.inl (y1, y2))) else chk (inb ((240 : Int32) + y3) 280) (nm (σ.1 14 ((240 : Int32) + y3).toNatClampNeg) fun x1 => (f_X9_stepOf y1 x1 y2).bind fun r1 => (if (0 : Int32) ≤ r1 then (if y2 = (0 : Int32) then (if x1 = (58 : Int32) then nm (y3 + (1 : Int32)) fun x4 => some (.inl (r1, (1 : Int32), x4)) else nm (y3 + (1 : Int32)) fun x3 => some (.inl (r1, (0 : Int32), x3))) else nm (y3 + (1 : Int32)) fun x2 => some (.inl (r1, (1 : Int32), x2))) else some (.inr (.inr y3))))))
def f_X9_fault (σ : St) : Option (Int32) := (wh FU (b_X9_fault_6 σ) ((0 : Int32), (0 : Int32), (0 : Int32))).bind (Sum.elim (un fun z1 z2 => (if z2 = (0 : Int32) then chk (inb (6 : Int32) 7) (some (σ.1 15 (6 : Int32).toNatClampNeg)) else (if z1 = (3 : Int32) then some (-6 : Int32) else chk (inb (6 : Int32) 7) (some (σ.1 15 (6 : Int32).toNatClampNeg))))) (fun z => some z))
abbrev rm_X9_fault : Room := { frames := 3, cells := 0, slots := 0, locals := 67 }
set_option maxHeartbeats 4000000 in
set_option maxRecDepth 20000 in
theorem m_X9_fault (l : Launch) (D : va_G) (cy : Cy) (q : Nat → Nat) (σ : St)  : ∀ res, f_X9_fault σ = some res → MetX (vM D cy q) l yX9_fault cX9_fault 5 (some .int) rm_X9_fault [.ref (q 0)] σ (some (.int res), σ) := by
  let fin_ : Int32 → Option Value × St := fun r => (some (.int r), σ)
  have hro : ∀ (z : Int32) (res : Int32), some z = some res → fin_ res = fin_ z := fun z res h => by cases h; rfl
  refine MetX.of1 (fin := fin_) (lv := [(0, .ref (q 0))]) (by decide) (Nat.le_of_ble_eq_true rfl) rfl ?_
  unfold f_X9_fault
  refine g_iconst (pc := 0) (0) dX9_fault_0 (by decide) ?_
  refine g_istore_n (pc := 1) (lv' := [(1, .int (0 : Int32)), (0, .ref (q 0))]) dX9_fault_1 rfl (Nat.le_of_ble_eq_true rfl) rfl ?_
  refine g_iconst (pc := 2) (0) dX9_fault_2 (by decide) ?_
  refine g_istore_n (pc := 3) (lv' := [(2, .int (0 : Int32)), (1, .int (0 : Int32)), (0, .ref (q 0))]) dX9_fault_3 rfl (Nat.le_of_ble_eq_true rfl) rfl ?_
  refine g_iconst (pc := 4) (0) dX9_fault_4 (by decide) ?_
  refine g_istore_n (pc := 5) (lv' := [(3, .int (0 : Int32)), (2, .int (0 : Int32)), (1, .int (0 : Int32)), (0, .ref (q 0))]) dX9_fault_5 rfl (Nat.le_of_ble_eq_true rfl) rfl ?_
  refine g_sub [3, 2, 1, 0] rfl ?_
  refine g_whr (pc := 6) (s0 := ((0 : Int32), (0 : Int32), (0 : Int32))) fin_ (fun (w_ : Int32 × Int32 × Int32) => σ) (fun (w_ : Int32 × Int32 × Int32) => [(0, .ref (q 0)), (1, .int w_.1), (2, .int w_.2.1), (3, .int w_.2.2)]) (fun (w_ : Int32 × Int32) => σ) (fun (w_ : Int32 × Int32) => [(0, .ref (q 0)), (1, .int w_.1), (2, .int w_.2)]) 66 (fun z => z) (fun _ => rfl) hro ?_ ?_
  · rintro ⟨z1, z2⟩
    try dsimp only [un, Sum.elim_inl]
    refine g_iload_n (pc := 66) 2 dX9_fault_66 rfl rfl ?_
    refine g_if_eq (pc := 67) 80 dX9_fault_67 (by decide) ?_ ?_
    · refine g_aload_n (pc := 80) 0 dX9_fault_80 rfl rfl ?_
      refine gf_9_signMany (pc := 81) kf_X9_53 dX9_fault_81 ?_
      refine g_bipush (pc := 84) (6) dX9_fault_84 (by decide) ?_
      refine a_ild (pc := 86) aM_signMany dX9_fault_86 ?_
      exact g_iret (pc := 87) (hro _) rfl dX9_fault_87
    · refine g_iload_n (pc := 70) 1 dX9_fault_70 rfl rfl ?_
      refine g_iconst (pc := 71) (3) dX9_fault_71 (by decide) ?_
      refine g_icmp_ne (pc := 72) 80 dX9_fault_72 (by decide) ?_ ?_
      · refine g_aload_n (pc := 80) 0 dX9_fault_80 rfl rfl ?_
        refine gf_9_signMany (pc := 81) kf_X9_53 dX9_fault_81 ?_
        refine g_bipush (pc := 84) (6) dX9_fault_84 (by decide) ?_
        refine a_ild (pc := 86) aM_signMany dX9_fault_86 ?_
        exact g_iret (pc := 87) (hro _) rfl dX9_fault_87
      · refine g_bipush (pc := 75) (-6) dX9_fault_75 (by decide) ?_
        refine g_goto (pc := 77) 87 dX9_fault_77 (by decide) ?_
        exact g_iret (pc := 87) (hro _) rfl dX9_fault_87
  · intro K6 hr6 hx6 ih6
    rintro ⟨y1, y2, y3⟩
    try dsimp only [b_X9_fault_6, un]
    refine g_iload_n (pc := 6) 3 dX9_fault_6 rfl rfl ?_
    refine g_aload_n (pc := 7) 0 dX9_fault_7 rfl rfl ?_
    refine gf_9_signMany (pc := 8) kf_X9_53 dX9_fault_8 ?_
    refine g_bipush (pc := 11) (6) dX9_fault_11 (by decide) ?_
    refine a_ild (pc := 13) aM_signMany dX9_fault_13 ?_
    refine g_icmp_ge (pc := 14) 66 dX9_fault_14 (by decide) ?_ ?_
    · exact g_sub [0, 1, 2] rfl (hx6 (y1, y2))
    · refine g_aload_n (pc := 17) 0 dX9_fault_17 rfl rfl ?_
      refine gf_9_signs (pc := 18) kf_X9_50 dX9_fault_18 ?_
      refine g_sipush (pc := 21) (240) dX9_fault_21 (by decide) ?_
      refine g_iload_n (pc := 24) 3 dX9_fault_24 rfl rfl ?_
      refine g_iadd (pc := 25) dX9_fault_25 ?_
      refine a_ild (pc := 26) aM_signs dX9_fault_26 ?_
      refine g_nmi (fun x1 => ?_)
      refine g_istore (pc := 27) (lv' := [(4, .int x1), (0, .ref (q 0)), (1, .int y1), (2, .int y2), (3, .int y3)]) dX9_fault_27 (Nat.le_of_ble_eq_true rfl) rfl ?_
      refine g_iload_n (pc := 29) 2 dX9_fault_29 rfl rfl ?_
      refine g_iload (pc := 30) 0 dX9_fault_30 rfl ?_
      refine g_iload_n (pc := 32) 3 dX9_fault_32 rfl rfl ?_
      refine gS_i (pc := 33) [.int y1, .int x1, .int y2] [] (m_X9_stepOf l D cy q σ y1 x1 y2) cw_X9_stepOf km_X9_184 ⟨rfl, rfl, by decide, by decide⟩ dX9_fault_33 rfl rfl (Nat.le_of_ble_eq_true rfl) (fun r1 => ?_)
      refine g_istore_n (pc := 36) (lv' := [(1, .int r1), (4, .int x1), (0, .ref (q 0)), (2, .int y2), (3, .int y3)]) dX9_fault_36 rfl (Nat.le_of_ble_eq_true rfl) rfl ?_
      refine g_iload_n (pc := 37) 0 dX9_fault_37 rfl rfl ?_
      refine g_if_ge (pc := 38) 43 dX9_fault_38 (by decide) ?_ ?_
      · refine g_iload_n (pc := 43) 3 dX9_fault_43 rfl rfl ?_
        refine g_if_ne (pc := 44) 54 dX9_fault_44 (by decide) ?_ ?_
        · refine g_iconst (pc := 54) (1) dX9_fault_54 (by decide) ?_
          refine g_goto (pc := 55) 59 dX9_fault_55 (by decide) ?_
          refine g_istore_n (pc := 59) (lv' := [(2, .int (1 : Int32)), (1, .int r1), (4, .int x1), (0, .ref (q 0)), (3, .int y3)]) dX9_fault_59 rfl (Nat.le_of_ble_eq_true rfl) rfl ?_
          refine g_iinc (pc := 60) (j := 4) (1) (lf := fun x2 => [(3, .int x2), (2, .int (1 : Int32)), (1, .int r1), (4, .int x1), (0, .ref (q 0))]) dX9_fault_60 rfl (by decide) (Nat.le_of_ble_eq_true rfl) (fun _ => rfl) (fun x2 => ?_)
          refine g_goto (pc := 63) 6 dX9_fault_63 (by decide) ?_
          exact g_sub [4, 2, 1, 0] rfl (ih6 (r1, (1 : Int32), x2))
        · refine g_iload (pc := 47) 1 dX9_fault_47 rfl ?_
          refine g_bipush (pc := 49) (58) dX9_fault_49 (by decide) ?_
          refine g_icmp_ne (pc := 51) 58 dX9_fault_51 (by decide) ?_ ?_
          · refine g_iconst (pc := 58) (0) dX9_fault_58 (by decide) ?_
            refine g_istore_n (pc := 59) (lv' := [(2, .int (0 : Int32)), (1, .int r1), (4, .int x1), (0, .ref (q 0)), (3, .int y3)]) dX9_fault_59 rfl (Nat.le_of_ble_eq_true rfl) rfl ?_
            refine g_iinc (pc := 60) (j := 4) (1) (lf := fun x3 => [(3, .int x3), (2, .int (0 : Int32)), (1, .int r1), (4, .int x1), (0, .ref (q 0))]) dX9_fault_60 rfl (by decide) (Nat.le_of_ble_eq_true rfl) (fun _ => rfl) (fun x3 => ?_)
            refine g_goto (pc := 63) 6 dX9_fault_63 (by decide) ?_
            exact g_sub [4, 2, 1, 0] rfl (ih6 (r1, (0 : Int32), x3))
          · refine g_iconst (pc := 54) (1) dX9_fault_54 (by decide) ?_
            refine g_goto (pc := 55) 59 dX9_fault_55 (by decide) ?_
            refine g_istore_n (pc := 59) (lv' := [(2, .int (1 : Int32)), (1, .int r1), (4, .int x1), (0, .ref (q 0)), (3, .int y3)]) dX9_fault_59 rfl (Nat.le_of_ble_eq_true rfl) rfl ?_
            refine g_iinc (pc := 60) (j := 4) (1) (lf := fun x4 => [(3, .int x4), (2, .int (1 : Int32)), (1, .int r1), (4, .int x1), (0, .ref (q 0))]) dX9_fault_60 rfl (by decide) (Nat.le_of_ble_eq_true rfl) (fun _ => rfl) (fun x4 => ?_)
            refine g_goto (pc := 63) 6 dX9_fault_63 (by decide) ?_
            exact g_sub [4, 2, 1, 0] rfl (ih6 (r1, (1 : Int32), x4))
      · refine g_iload_n (pc := 41) 4 dX9_fault_41 rfl rfl ?_
        exact g_iret (pc := 42) (hr6 _) rfl dX9_fault_42
def b_X9_saying_24 : (Int32 × St) → Option ((Int32 × St) ⊕ (St)) := un fun y1 s1 => chk (inb (6 : Int32) 7) ((if (s1.1 15 (6 : Int32).toNatClampNeg) ≤ y1 then some (.inr s1) else chk (inb ((240 : Int32) + y1) 280) (chk (inb (((40 : Int32) * (s1.1 0 20)) + y1) 280) (nm (stI s1 14 (((40 : Int32) * (s1.1 0 20)) + y1).toNatClampNeg (s1.1 14 ((240 : Int32) + y1).toNatClampNeg)) fun s2 => nm (y1 + (1 : Int32)) fun x1 => some (.inl (x1, s2))))))
def f_X9_saying (σ : St) : Option (Int32 × St) := (if (σ.1 0 20) = (6 : Int32) then some ((-4 : Int32), σ) else (f_X9_fault σ).bind fun r1 => (if r1 < (0 : Int32) then (wh FU b_X9_saying_24 ((0 : Int32), σ)).bind (fun s3 => chk (inb (6 : Int32) 7) (chk (inb (s3.1 0 20) 7) (nm (stI s3 15 (s3.1 0 20).toNatClampNeg (s3.1 15 (6 : Int32).toNatClampNeg)) fun s4 => chk (inb (6 : Int32) 7) (nm (stI s4 15 (6 : Int32).toNatClampNeg (0 : Int32)) fun s5 => nm (stI s5 0 20 ((s5.1 0 20) + (1 : Int32))) fun s6 => some (((s6.1 0 20) - (1 : Int32)), s6))))) else some ((-5 : Int32), σ)))
abbrev rm_X9_saying : Room := { frames := 4, cells := 0, slots := 0, locals := 91 }
set_option maxHeartbeats 4000000 in
set_option maxRecDepth 20000 in
theorem m_X9_saying (l : Launch) (D : va_G) (cy : Cy) (q : Nat → Nat) (σ : St)  : ∀ res, f_X9_saying σ = some res → MetX (vM D cy q) l yX9_saying cX9_saying 2 (some .int) rm_X9_saying [.ref (q 0)] σ (some (.int res.1), res.2) := by
  let fin_ : (Int32 × St) → Option Value × St := fun r => (some (.int r.1), r.2)
  have hro : ∀ (z : Int32 × St) (res : Int32 × St), some z = some res → fin_ res = fin_ z := fun z res h => by cases h; rfl
  refine MetX.of1 (fin := fin_) (lv := [(0, .ref (q 0))]) (by decide) (Nat.le_of_ble_eq_true rfl) rfl ?_
  unfold f_X9_saying
  refine g_aload_n (pc := 0) 0 dX9_saying_0 rfl rfl ?_
  refine gf_9_sayings (pc := 1) kf_X9_188 dX9_saying_1 ?_
  refine g_bipush (pc := 4) (6) dX9_saying_4 (by decide) ?_
  refine g_icmp_ne (pc := 6) 12 dX9_saying_6 (by decide) ?_ ?_
  · refine g_aload_n (pc := 12) 0 dX9_saying_12 rfl rfl ?_
    refine gV_i (pc := 13) [] [] (m_X9_fault l D cy q σ) cw_X9_fault km_X9_191 ⟨rfl, rfl, by decide, by decide⟩ (Nat.le_of_ble_eq_true rfl) (eM_9 (cy := cy) (σ.1 0) (σ.2 0)) rfl dX9_saying_13 rfl rfl (Nat.le_of_ble_eq_true rfl) (fun r1 => ?_)
    refine g_if_lt (pc := 16) 22 dX9_saying_16 (by decide) ?_ ?_
    · refine g_iconst (pc := 22) (0) dX9_saying_22 (by decide) ?_
      refine g_istore_n (pc := 23) (lv' := [(1, .int (0 : Int32)), (0, .ref (q 0))]) dX9_saying_23 rfl (Nat.le_of_ble_eq_true rfl) rfl ?_
      refine g_sub [1, 0] rfl ?_
      refine g_wh2 (pc := 24) (s0 := ((0 : Int32), σ)) (fun (w_ : Int32 × St) => w_.2) (fun (w_ : Int32 × St) => [(0, .ref (q 0)), (1, .int w_.1)]) (fun (w_ : St) => w_) (fun (w_ : St) => [(0, .ref (q 0))]) 65 ?_ ?_
      · rintro s3
        try dsimp only [un, Sum.elim_inl]
        refine g_aload_n (pc := 65) 0 dX9_saying_65 rfl rfl ?_
        refine gf_9_signMany (pc := 66) kf_X9_53 dX9_saying_66 ?_
        refine g_aload_n (pc := 69) 0 dX9_saying_69 rfl rfl ?_
        refine gf_9_sayings (pc := 70) kf_X9_188 dX9_saying_70 ?_
        refine g_aload_n (pc := 73) 0 dX9_saying_73 rfl rfl ?_
        refine gf_9_signMany (pc := 74) kf_X9_53 dX9_saying_74 ?_
        refine g_bipush (pc := 77) (6) dX9_saying_77 (by decide) ?_
        refine a_ild (pc := 79) aM_signMany dX9_saying_79 ?_
        refine a_ist (pc := 80) aM_signMany dX9_saying_80 (fun s4 => ?_)
        refine g_aload_n (pc := 81) 0 dX9_saying_81 rfl rfl ?_
        refine gf_9_signMany (pc := 82) kf_X9_53 dX9_saying_82 ?_
        refine g_bipush (pc := 85) (6) dX9_saying_85 (by decide) ?_
        refine g_iconst (pc := 87) (0) dX9_saying_87 (by decide) ?_
        refine a_ist (pc := 88) aM_signMany dX9_saying_88 (fun s5 => ?_)
        refine g_aload_n (pc := 89) 0 dX9_saying_89 rfl rfl ?_
        refine g_dup (pc := 90) dX9_saying_90 rfl ?_
        refine gf_9_sayings (pc := 91) kf_X9_188 dX9_saying_91 ?_
        refine g_iconst (pc := 94) (1) dX9_saying_94 (by decide) ?_
        refine g_iadd (pc := 95) dX9_saying_95 ?_
        refine gp_9_sayings (pc := 96) kf_X9_188 dX9_saying_96 (fun s6 => ?_)
        refine g_aload_n (pc := 99) 0 dX9_saying_99 rfl rfl ?_
        refine gf_9_sayings (pc := 100) kf_X9_188 dX9_saying_100 ?_
        refine g_iconst (pc := 103) (1) dX9_saying_103 (by decide) ?_
        refine g_isub (pc := 104) dX9_saying_104 ?_
        exact g_iret (pc := 105) (hro _) rfl dX9_saying_105
      · intro K24 hx24 ih24
        rintro ⟨y1, s1⟩
        try dsimp only [b_X9_saying_24, un]
        refine g_iload_n (pc := 24) 1 dX9_saying_24 rfl rfl ?_
        refine g_aload_n (pc := 25) 0 dX9_saying_25 rfl rfl ?_
        refine gf_9_signMany (pc := 26) kf_X9_53 dX9_saying_26 ?_
        refine g_bipush (pc := 29) (6) dX9_saying_29 (by decide) ?_
        refine a_ild (pc := 31) aM_signMany dX9_saying_31 ?_
        refine g_icmp_ge (pc := 32) 65 dX9_saying_32 (by decide) ?_ ?_
        · exact g_sub [0] rfl (hx24 s1)
        · refine g_aload_n (pc := 35) 0 dX9_saying_35 rfl rfl ?_
          refine gf_9_signs (pc := 36) kf_X9_50 dX9_saying_36 ?_
          refine g_bipush (pc := 39) (40) dX9_saying_39 (by decide) ?_
          refine g_aload_n (pc := 41) 0 dX9_saying_41 rfl rfl ?_
          refine gf_9_sayings (pc := 42) kf_X9_188 dX9_saying_42 ?_
          refine g_imul (pc := 45) dX9_saying_45 ?_
          refine g_iload_n (pc := 46) 1 dX9_saying_46 rfl rfl ?_
          refine g_iadd (pc := 47) dX9_saying_47 ?_
          refine g_aload_n (pc := 48) 0 dX9_saying_48 rfl rfl ?_
          refine gf_9_signs (pc := 49) kf_X9_50 dX9_saying_49 ?_
          refine g_sipush (pc := 52) (240) dX9_saying_52 (by decide) ?_
          refine g_iload_n (pc := 55) 1 dX9_saying_55 rfl rfl ?_
          refine g_iadd (pc := 56) dX9_saying_56 ?_
          refine a_ild (pc := 57) aM_signs dX9_saying_57 ?_
          refine a_ist (pc := 58) aM_signs dX9_saying_58 (fun s2 => ?_)
          refine g_iinc (pc := 59) (j := 1) (1) (lf := fun x1 => [(1, .int x1), (0, .ref (q 0))]) dX9_saying_59 rfl (by decide) (Nat.le_of_ble_eq_true rfl) (fun _ => rfl) (fun x1 => ?_)
          refine g_goto (pc := 62) 24 dX9_saying_62 (by decide) ?_
          exact g_sub [1, 0] rfl (ih24 (x1, s2))
    · refine g_bipush (pc := 19) (-5) dX9_saying_19 (by decide) ?_
      exact g_iret (pc := 21) (hro _) rfl dX9_saying_21
  · refine g_bipush (pc := 9) (-4) dX9_saying_9 (by decide) ?_
    exact g_iret (pc := 11) (hro _) rfl dX9_saying_11
def f_X9_isSaying (s : Int32) (σ : St) : Option (Int32) := (f_X9_in s.toInt64 (0 : Int64) (((σ.1 0 20) - (1 : Int32)).toInt64)).bind fun r1 => chk (isb r1) (some r1)
abbrev rm_X9_isSaying : Room := { frames := 1, cells := 0, slots := 0, locals := 25 }
set_option maxHeartbeats 4000000 in
set_option maxRecDepth 20000 in
theorem m_X9_isSaying (l : Launch) (D : va_G) (cy : Cy) (q : Nat → Nat) (σ : St) (s : Int32)  : ∀ res, f_X9_isSaying s σ = some res → MetX (vM D cy q) l yX9_isSaying cX9_isSaying 2 (some .boolean) rm_X9_isSaying [.ref (q 0), .int s] σ (some (.int res), σ) := by
  let fin_ : Int32 → Option Value × St := fun r => (some (.int r), σ)
  have hro : ∀ (z : Int32) (res : Int32), some z = some res → fin_ res = fin_ z := fun z res h => by cases h; rfl
  refine MetX.of1 (fin := fin_) (lv := [(0, .ref (q 0)), (1, .int s)]) (by decide) (Nat.le_of_ble_eq_true rfl) rfl ?_
  unfold f_X9_isSaying
  refine g_iload_n (pc := 0) 1 dX9_isSaying_0 rfl rfl ?_
  refine g_i2l (pc := 1) dX9_isSaying_1 ?_
  refine g_lconst (pc := 2) (0) dX9_isSaying_2 (by decide) ?_
  refine g_aload_n (pc := 3) 0 dX9_isSaying_3 rfl rfl ?_
  refine gf_9_sayings (pc := 4) kf_X9_188 dX9_isSaying_4 ?_
  refine g_iconst (pc := 7) (1) dX9_isSaying_7 (by decide) ?_
  refine g_isub (pc := 8) dX9_isSaying_8 ?_
  refine g_i2l (pc := 9) dX9_isSaying_9 ?_
  refine gS_i (pc := 10) [.long s.toInt64, .long (0 : Int64), .long (((σ.1 0 20) - (1 : Int32)).toInt64)] [] (m_X9_in l D cy q σ s.toInt64 (0 : Int64) (((σ.1 0 20) - (1 : Int32)).toInt64)) cw_X9_in km_X9_101 ⟨rfl, rfl, by decide, by decide⟩ dX9_isSaying_10 rfl rfl (Nat.le_of_ble_eq_true rfl) (fun r1 => ?_)
  exact g_chk fun hb => g_zret (pc := 13) hb (hro _) rfl dX9_isSaying_13
def f_X9_stand (how : Int32) (x : Int32) (y : Int32) : Option (Int32) := (if how = (61 : Int32) then (if x = y then some (1 : Int32) else some (0 : Int32)) else (if how = (60 : Int32) then (if y ≤ x then some (0 : Int32) else some (1 : Int32)) else (if how = (62 : Int32) then (if x ≤ y then some (0 : Int32) else some (1 : Int32)) else (if x = y then some (0 : Int32) else some (1 : Int32)))))
abbrev rm_X9_stand : Room := { frames := 0, cells := 0, slots := 0, locals := 0 }
set_option maxHeartbeats 4000000 in
set_option maxRecDepth 20000 in
theorem m_X9_stand (l : Launch) (D : va_G) (cy : Cy) (q : Nat → Nat) (σ : St) (how : Int32) (x : Int32) (y : Int32)  : ∀ res, f_X9_stand how x y = some res → MetX (vM D cy q) l yX9_stand cX9_stand 3 (some .boolean) rm_X9_stand [.int how, .int x, .int y] σ (some (.int res), σ) := by
  let fin_ : Int32 → Option Value × St := fun r => (some (.int r), σ)
  have hro : ∀ (z : Int32) (res : Int32), some z = some res → fin_ res = fin_ z := fun z res h => by cases h; rfl
  refine MetX.of1 (fin := fin_) (lv := [(0, .int how), (1, .int x), (2, .int y)]) (by decide) (Nat.le_of_ble_eq_true rfl) rfl ?_
  unfold f_X9_stand
  refine g_iload_n (pc := 0) 0 dX9_stand_0 rfl rfl ?_
  refine g_bipush (pc := 1) (61) dX9_stand_1 (by decide) ?_
  refine g_icmp_ne (pc := 3) 19 dX9_stand_3 (by decide) ?_ ?_
  · refine g_iload_n (pc := 19) 0 dX9_stand_19 rfl rfl ?_
    refine g_bipush (pc := 20) (60) dX9_stand_20 (by decide) ?_
    refine g_icmp_ne (pc := 22) 38 dX9_stand_22 (by decide) ?_ ?_
    · refine g_iload_n (pc := 38) 0 dX9_stand_38 rfl rfl ?_
      refine g_bipush (pc := 39) (62) dX9_stand_39 (by decide) ?_
      refine g_icmp_ne (pc := 41) 57 dX9_stand_41 (by decide) ?_ ?_
      · refine g_iload_n (pc := 57) 1 dX9_stand_57 rfl rfl ?_
        refine g_iload_n (pc := 58) 2 dX9_stand_58 rfl rfl ?_
        refine g_icmp_eq (pc := 59) 66 dX9_stand_59 (by decide) ?_ ?_
        · refine g_iconst (pc := 66) (0) dX9_stand_66 (by decide) ?_
          exact g_zret (pc := 67) rfl (hro _) rfl dX9_stand_67
        · refine g_iconst (pc := 62) (1) dX9_stand_62 (by decide) ?_
          refine g_goto (pc := 63) 67 dX9_stand_63 (by decide) ?_
          exact g_zret (pc := 67) rfl (hro _) rfl dX9_stand_67
      · refine g_iload_n (pc := 44) 1 dX9_stand_44 rfl rfl ?_
        refine g_iload_n (pc := 45) 2 dX9_stand_45 rfl rfl ?_
        refine g_icmp_le (pc := 46) 53 dX9_stand_46 (by decide) ?_ ?_
        · refine g_iconst (pc := 53) (0) dX9_stand_53 (by decide) ?_
          refine g_goto (pc := 54) 67 dX9_stand_54 (by decide) ?_
          exact g_zret (pc := 67) rfl (hro _) rfl dX9_stand_67
        · refine g_iconst (pc := 49) (1) dX9_stand_49 (by decide) ?_
          refine g_goto (pc := 50) 67 dX9_stand_50 (by decide) ?_
          exact g_zret (pc := 67) rfl (hro _) rfl dX9_stand_67
    · refine g_iload_n (pc := 25) 1 dX9_stand_25 rfl rfl ?_
      refine g_iload_n (pc := 26) 2 dX9_stand_26 rfl rfl ?_
      refine g_icmp_ge (pc := 27) 34 dX9_stand_27 (by decide) ?_ ?_
      · refine g_iconst (pc := 34) (0) dX9_stand_34 (by decide) ?_
        refine g_goto (pc := 35) 67 dX9_stand_35 (by decide) ?_
        exact g_zret (pc := 67) rfl (hro _) rfl dX9_stand_67
      · refine g_iconst (pc := 30) (1) dX9_stand_30 (by decide) ?_
        refine g_goto (pc := 31) 67 dX9_stand_31 (by decide) ?_
        exact g_zret (pc := 67) rfl (hro _) rfl dX9_stand_67
  · refine g_iload_n (pc := 6) 1 dX9_stand_6 rfl rfl ?_
    refine g_iload_n (pc := 7) 2 dX9_stand_7 rfl rfl ?_
    refine g_icmp_ne (pc := 8) 15 dX9_stand_8 (by decide) ?_ ?_
    · refine g_iconst (pc := 15) (0) dX9_stand_15 (by decide) ?_
      refine g_goto (pc := 16) 67 dX9_stand_16 (by decide) ?_
      exact g_zret (pc := 67) rfl (hro _) rfl dX9_stand_67
    · refine g_iconst (pc := 11) (1) dX9_stand_11 (by decide) ?_
      refine g_goto (pc := 12) 67 dX9_stand_12 (by decide) ?_
      exact g_zret (pc := 67) rfl (hro _) rfl dX9_stand_67
def b_X9_markOf_5 (σ : St) : (Int32) → Option ((Int32) ⊕ (Int32)) := fun y1 => chk (inb y1 280) ((if (σ.1 14 y1.toNatClampNeg) = (58 : Int32) then some (.inr y1) else nm (y1 + (1 : Int32)) fun x2 => some (.inl x2)))
def f_X9_markOf (s : Int32) (σ : St) : Option (Int32) := nm ((40 : Int32) * s) fun x1 => (wh FU (b_X9_markOf_5 σ) x1).bind (fun z1 => some (z1 + (1 : Int32)))
abbrev rm_X9_markOf : Room := { frames := 0, cells := 0, slots := 0, locals := 0 }
set_option maxHeartbeats 4000000 in
set_option maxRecDepth 20000 in
theorem m_X9_markOf (l : Launch) (D : va_G) (cy : Cy) (q : Nat → Nat) (σ : St) (s : Int32)  : ∀ res, f_X9_markOf s σ = some res → MetX (vM D cy q) l yX9_markOf cX9_markOf 3 (some .int) rm_X9_markOf [.ref (q 0), .int s] σ (some (.int res), σ) := by
  let fin_ : Int32 → Option Value × St := fun r => (some (.int r), σ)
  have hro : ∀ (z : Int32) (res : Int32), some z = some res → fin_ res = fin_ z := fun z res h => by cases h; rfl
  refine MetX.of1 (fin := fin_) (lv := [(0, .ref (q 0)), (1, .int s)]) (by decide) (Nat.le_of_ble_eq_true rfl) rfl ?_
  unfold f_X9_markOf
  refine g_bipush (pc := 0) (40) dX9_markOf_0 (by decide) ?_
  refine g_iload_n (pc := 2) 1 dX9_markOf_2 rfl rfl ?_
  refine g_imul (pc := 3) dX9_markOf_3 ?_
  refine g_nmi (fun x1 => ?_)
  refine g_istore_n (pc := 4) (lv' := [(2, .int x1), (0, .ref (q 0)), (1, .int s)]) dX9_markOf_4 rfl (Nat.le_of_ble_eq_true rfl) rfl ?_
  refine g_sub [1, 0] rfl ?_
  refine g_wh2 (pc := 5) (s0 := x1) (fun (w_ : Int32) => σ) (fun (w_ : Int32) => [(0, .ref (q 0)), (2, .int w_)]) (fun (w_ : Int32) => σ) (fun (w_ : Int32) => [(2, .int w_)]) 22 ?_ ?_
  · rintro z1
    try dsimp only [un, Sum.elim_inl]
    refine g_iload_n (pc := 22) 0 dX9_markOf_22 rfl rfl ?_
    refine g_iconst (pc := 23) (1) dX9_markOf_23 (by decide) ?_
    refine g_iadd (pc := 24) dX9_markOf_24 ?_
    exact g_iret (pc := 25) (hro _) rfl dX9_markOf_25
  · intro K5 hx5 ih5
    rintro y1
    try dsimp only [b_X9_markOf_5, un]
    refine g_aload_n (pc := 5) 0 dX9_markOf_5 rfl rfl ?_
    refine gf_9_signs (pc := 6) kf_X9_50 dX9_markOf_6 ?_
    refine g_iload_n (pc := 9) 1 dX9_markOf_9 rfl rfl ?_
    refine a_ild (pc := 10) aM_signs dX9_markOf_10 ?_
    refine g_bipush (pc := 11) (58) dX9_markOf_11 (by decide) ?_
    refine g_icmp_eq (pc := 13) 22 dX9_markOf_13 (by decide) ?_ ?_
    · exact g_sub [1] rfl (hx5 y1)
    · refine g_iinc (pc := 16) (j := 1) (1) (lf := fun x2 => [(2, .int x2), (0, .ref (q 0))]) dX9_markOf_16 rfl (by decide) (Nat.le_of_ble_eq_true rfl) (fun _ => rfl) (fun x2 => ?_)
      refine g_goto (pc := 19) 5 dX9_markOf_19 (by decide) ?_
      exact g_sub [1, 0] rfl (ih5 x2)
def b_X9_allStand_6 (to : Int32) (one : Int32) (other : Int32) (σ : St) : (Int32 × Int32) → Option ((Int32 × Int32) ⊕ (Int32)) := un fun y1 y2 => (if to ≤ y2 then some (.inr y1) else (if y1 = (0 : Int32) then some (.inr y1) else chk (inb y2 280) ((f_X9_isLetter (σ.1 14 y2.toNatClampNeg)).bind fun r1 => (if r1 = (0 : Int32) then nm (y2 + (2 : Int32)) fun x1 => some (.inl (y1, x1)) else chk (inb (y2 + (1 : Int32)) 280) (chk (inb y2 280) ((f_X9_valueOf one ((σ.1 14 y2.toNatClampNeg) - (97 : Int32))).bind fun r2 => chk (inb (y2 + (2 : Int32)) 280) ((f_X9_valueOf other ((σ.1 14 (y2 + (2 : Int32)).toNatClampNeg) - (97 : Int32))).bind fun r3 => (f_X9_stand (σ.1 14 (y2 + (1 : Int32)).toNatClampNeg) r2 r3).bind fun r4 => nm (y2 + (4 : Int32)) fun x2 => some (.inl (r4, x2)))))))))
def f_X9_allStand (from_ : Int32) (to : Int32) (one : Int32) (other : Int32) (σ : St) : Option (Int32) := (wh FU (b_X9_allStand_6 to one other σ) ((1 : Int32), from_)).bind (fun z1 => chk (isb z1) (some z1))
abbrev rm_X9_allStand : Room := { frames := 2, cells := 0, slots := 0, locals := 45 }
set_option maxHeartbeats 4000000 in
set_option maxRecDepth 20000 in
theorem m_X9_allStand (l : Launch) (D : va_G) (cy : Cy) (q : Nat → Nat) (σ : St) (from_ : Int32) (to : Int32) (one : Int32) (other : Int32)  : ∀ res, f_X9_allStand from_ to one other σ = some res → MetX (vM D cy q) l yX9_allStand cX9_allStand 7 (some .boolean) rm_X9_allStand [.ref (q 0), .int from_, .int to, .int one, .int other] σ (some (.int res), σ) := by
  let fin_ : Int32 → Option Value × St := fun r => (some (.int r), σ)
  have hro : ∀ (z : Int32) (res : Int32), some z = some res → fin_ res = fin_ z := fun z res h => by cases h; rfl
  refine MetX.of1 (fin := fin_) (lv := [(0, .ref (q 0)), (1, .int from_), (2, .int to), (3, .int one), (4, .int other)]) (by decide) (Nat.le_of_ble_eq_true rfl) rfl ?_
  unfold f_X9_allStand
  refine g_iconst (pc := 0) (1) dX9_allStand_0 (by decide) ?_
  refine g_istore (pc := 1) (lv' := [(5, .int (1 : Int32)), (0, .ref (q 0)), (1, .int from_), (2, .int to), (3, .int one), (4, .int other)]) dX9_allStand_1 (Nat.le_of_ble_eq_true rfl) rfl ?_
  refine g_iload_n (pc := 3) 2 dX9_allStand_3 rfl rfl ?_
  refine g_istore (pc := 4) (lv' := [(6, .int from_), (5, .int (1 : Int32)), (0, .ref (q 0)), (1, .int from_), (2, .int to), (3, .int one), (4, .int other)]) dX9_allStand_4 (Nat.le_of_ble_eq_true rfl) rfl ?_
  refine g_sub [2, 4, 5, 6, 1, 0] rfl ?_
  refine g_wh2 (pc := 6) (s0 := ((1 : Int32), from_)) (fun (w_ : Int32 × Int32) => σ) (fun (w_ : Int32 × Int32) => [(0, .ref (q 0)), (2, .int to), (3, .int one), (4, .int other), (5, .int w_.1), (6, .int w_.2)]) (fun (w_ : Int32) => σ) (fun (w_ : Int32) => [(5, .int w_)]) 87 ?_ ?_
  · rintro z1
    try dsimp only [un, Sum.elim_inl]
    refine g_iload (pc := 87) 0 dX9_allStand_87 rfl ?_
    exact g_chk fun hb => g_zret (pc := 89) hb (hro _) rfl dX9_allStand_89
  · intro K6 hx6 ih6
    rintro ⟨y1, y2⟩
    try dsimp only [b_X9_allStand_6, un]
    refine g_iload (pc := 6) 5 dX9_allStand_6 rfl ?_
    refine g_iload_n (pc := 8) 1 dX9_allStand_8 rfl rfl ?_
    refine g_icmp_ge (pc := 9) 87 dX9_allStand_9 (by decide) ?_ ?_
    · exact g_sub [4] rfl (hx6 y1)
    · refine g_iload (pc := 12) 4 dX9_allStand_12 rfl ?_
      refine g_if_eq (pc := 14) 87 dX9_allStand_14 (by decide) ?_ ?_
      · exact g_sub [4] rfl (hx6 y1)
      · refine g_aload_n (pc := 17) 0 dX9_allStand_17 rfl rfl ?_
        refine gf_9_signs (pc := 18) kf_X9_50 dX9_allStand_18 ?_
        refine g_iload (pc := 21) 5 dX9_allStand_21 rfl ?_
        refine a_ild (pc := 23) aM_signs dX9_allStand_23 ?_
        refine gS_i (pc := 24) [.int (σ.1 14 y2.toNatClampNeg)] [] (m_X9_isLetter l D cy q σ (σ.1 14 y2.toNatClampNeg)) cw_X9_isLetter km_X9_175 ⟨rfl, rfl, by decide, by decide⟩ dX9_allStand_24 rfl rfl (Nat.le_of_ble_eq_true rfl) (fun r1 => ?_)
        refine g_if_eq (pc := 27) 81 dX9_allStand_27 (by decide) ?_ ?_
        · refine g_iinc (pc := 81) (j := 5) (2) (lf := fun x1 => [(6, .int x1), (0, .ref (q 0)), (2, .int to), (3, .int one), (4, .int other), (5, .int y1)]) dX9_allStand_81 rfl (by decide) (Nat.le_of_ble_eq_true rfl) (fun _ => rfl) (fun x1 => ?_)
          refine g_goto (pc := 84) 6 dX9_allStand_84 (by decide) ?_
          exact g_sub [1, 2, 3, 4, 5, 0] rfl (ih6 (y1, x1))
        · refine g_aload_n (pc := 30) 0 dX9_allStand_30 rfl rfl ?_
          refine gf_9_signs (pc := 31) kf_X9_50 dX9_allStand_31 ?_
          refine g_iload (pc := 34) 5 dX9_allStand_34 rfl ?_
          refine g_iconst (pc := 36) (1) dX9_allStand_36 (by decide) ?_
          refine g_iadd (pc := 37) dX9_allStand_37 ?_
          refine a_ild (pc := 38) aM_signs dX9_allStand_38 ?_
          refine g_iload_n (pc := 39) 2 dX9_allStand_39 rfl rfl ?_
          refine g_aload_n (pc := 40) 0 dX9_allStand_40 rfl rfl ?_
          refine gf_9_signs (pc := 41) kf_X9_50 dX9_allStand_41 ?_
          refine g_iload (pc := 44) 5 dX9_allStand_44 rfl ?_
          refine a_ild (pc := 46) aM_signs dX9_allStand_46 ?_
          refine g_bipush (pc := 47) (97) dX9_allStand_47 (by decide) ?_
          refine g_isub (pc := 49) dX9_allStand_49 ?_
          refine gS_i (pc := 50) [.int one, .int ((σ.1 14 y2.toNatClampNeg) - (97 : Int32))] [.int (σ.1 14 (y2 + (1 : Int32)).toNatClampNeg)] (m_X9_valueOf l (vM D cy q) σ one ((σ.1 14 y2.toNatClampNeg) - (97 : Int32))) cw_X9_valueOf km_X9_128 ⟨rfl, rfl, by decide, by decide⟩ dX9_allStand_50 rfl rfl (Nat.le_of_ble_eq_true rfl) (fun r2 => ?_)
          refine g_iload (pc := 53) 3 dX9_allStand_53 rfl ?_
          refine g_aload_n (pc := 55) 0 dX9_allStand_55 rfl rfl ?_
          refine gf_9_signs (pc := 56) kf_X9_50 dX9_allStand_56 ?_
          refine g_iload (pc := 59) 5 dX9_allStand_59 rfl ?_
          refine g_iconst (pc := 61) (2) dX9_allStand_61 (by decide) ?_
          refine g_iadd (pc := 62) dX9_allStand_62 ?_
          refine a_ild (pc := 63) aM_signs dX9_allStand_63 ?_
          refine g_bipush (pc := 64) (97) dX9_allStand_64 (by decide) ?_
          refine g_isub (pc := 66) dX9_allStand_66 ?_
          refine gS_i (pc := 67) [.int other, .int ((σ.1 14 (y2 + (2 : Int32)).toNatClampNeg) - (97 : Int32))] [.int r2, .int (σ.1 14 (y2 + (1 : Int32)).toNatClampNeg)] (m_X9_valueOf l (vM D cy q) σ other ((σ.1 14 (y2 + (2 : Int32)).toNatClampNeg) - (97 : Int32))) cw_X9_valueOf km_X9_128 ⟨rfl, rfl, by decide, by decide⟩ dX9_allStand_67 rfl rfl (Nat.le_of_ble_eq_true rfl) (fun r3 => ?_)
          refine gS_i (pc := 70) [.int (σ.1 14 (y2 + (1 : Int32)).toNatClampNeg), .int r2, .int r3] [] (m_X9_stand l D cy q σ (σ.1 14 (y2 + (1 : Int32)).toNatClampNeg) r2 r3) cw_X9_stand km_X9_195 ⟨rfl, rfl, by decide, by decide⟩ dX9_allStand_70 rfl rfl (Nat.le_of_ble_eq_true rfl) (fun r4 => ?_)
          refine g_istore (pc := 73) (lv' := [(5, .int r4), (0, .ref (q 0)), (2, .int to), (3, .int one), (4, .int other), (6, .int y2)]) dX9_allStand_73 (Nat.le_of_ble_eq_true rfl) rfl ?_
          refine g_iinc (pc := 75) (j := 5) (4) (lf := fun x2 => [(6, .int x2), (5, .int r4), (0, .ref (q 0)), (2, .int to), (3, .int one), (4, .int other)]) dX9_allStand_75 rfl (by decide) (Nat.le_of_ble_eq_true rfl) (fun _ => rfl) (fun x2 => ?_)
          refine g_goto (pc := 78) 6 dX9_allStand_78 (by decide) ?_
          exact g_sub [2, 3, 4, 5, 1, 0] rfl (ih6 (r4, x2))
def f_X9_isMeant (s : Int32) (start : Int32) (other : Int32) (σ : St) : Option (Int32) := (f_X9_markOf s σ).bind fun r1 => (f_X9_allStand ((40 : Int32) * s) (r1 - (1 : Int32)) start other σ).bind fun r2 => chk (isb r2) (some r2)
abbrev rm_X9_isMeant : Room := { frames := 3, cells := 0, slots := 0, locals := 71 }
set_option maxHeartbeats 4000000 in
set_option maxRecDepth 20000 in
theorem m_X9_isMeant (l : Launch) (D : va_G) (cy : Cy) (q : Nat → Nat) (σ : St) (s : Int32) (start : Int32) (other : Int32)  : ∀ res, f_X9_isMeant s start other σ = some res → MetX (vM D cy q) l yX9_isMeant cX9_isMeant 4 (some .boolean) rm_X9_isMeant [.ref (q 0), .int s, .int start, .int other] σ (some (.int res), σ) := by
  let fin_ : Int32 → Option Value × St := fun r => (some (.int r), σ)
  have hro : ∀ (z : Int32) (res : Int32), some z = some res → fin_ res = fin_ z := fun z res h => by cases h; rfl
  refine MetX.of1 (fin := fin_) (lv := [(0, .ref (q 0)), (1, .int s), (2, .int start), (3, .int other)]) (by decide) (Nat.le_of_ble_eq_true rfl) rfl ?_
  unfold f_X9_isMeant
  refine g_aload_n (pc := 0) 0 dX9_isMeant_0 rfl rfl ?_
  refine g_bipush (pc := 1) (40) dX9_isMeant_1 (by decide) ?_
  refine g_iload_n (pc := 3) 1 dX9_isMeant_3 rfl rfl ?_
  refine g_imul (pc := 4) dX9_isMeant_4 ?_
  refine g_aload_n (pc := 5) 0 dX9_isMeant_5 rfl rfl ?_
  refine g_iload_n (pc := 6) 1 dX9_isMeant_6 rfl rfl ?_
  refine gV_i (pc := 7) [.int s] [.int ((40 : Int32) * s), .ref (q 0)] (m_X9_markOf l D cy q σ s) cw_X9_markOf km_X9_199 ⟨rfl, rfl, by decide, by decide⟩ (Nat.le_of_ble_eq_true rfl) (eM_9 (cy := cy) (σ.1 0) (σ.2 0)) rfl dX9_isMeant_7 rfl rfl (Nat.le_of_ble_eq_true rfl) (fun r1 => ?_)
  refine g_iconst (pc := 10) (1) dX9_isMeant_10 (by decide) ?_
  refine g_isub (pc := 11) dX9_isMeant_11 ?_
  refine g_iload_n (pc := 12) 2 dX9_isMeant_12 rfl rfl ?_
  refine g_iload_n (pc := 13) 3 dX9_isMeant_13 rfl rfl ?_
  refine gV_i (pc := 14) [.int ((40 : Int32) * s), .int (r1 - (1 : Int32)), .int start, .int other] [] (m_X9_allStand l D cy q σ ((40 : Int32) * s) (r1 - (1 : Int32)) start other) cw_X9_allStand km_X9_203 ⟨rfl, rfl, by decide, by decide⟩ (Nat.le_of_ble_eq_true rfl) (eM_9 (cy := cy) (σ.1 0) (σ.2 0)) rfl dX9_isMeant_14 rfl rfl (Nat.le_of_ble_eq_true rfl) (fun r2 => ?_)
  exact g_chk fun hb => g_zret (pc := 17) hb (hro _) rfl dX9_isMeant_17
def b_X9_isAsSaid_46 (x : Int32) (y : Int32) (σ : St) (x1 : Int32) : (Int32 × Int32) → Option ((Int32 × Int32) ⊕ (Int32)) := un fun y1 y2 => (if x1 ≤ y2 then some (.inr y1) else (if y1 = (0 : Int32) then some (.inr y1) else chk (inb y2 280) (nm (σ.1 14 y2.toNatClampNeg) fun x2 => (f_X9_isLetter x2).bind fun r3 => (if r3 = (0 : Int32) then (if x2 = (101 : Int32) then chk (inb x 512) (chk (inb y 512) ((if (σ.1 9 x.toNatClampNeg) = (σ.1 9 y.toNatClampNeg) then nm (y2 + (2 : Int32)) fun x9 => some (.inl ((1 : Int32), x9)) else nm (y2 + (2 : Int32)) fun x8 => some (.inl ((0 : Int32), x8))))) else (if x2 = (116 : Int32) then chk (inb x 512) (chk (inb y 512) ((if (σ.1 11 x.toNatClampNeg) = (σ.1 11 y.toNatClampNeg) then nm (y2 + (2 : Int32)) fun x7 => some (.inl ((1 : Int32), x7)) else nm (y2 + (2 : Int32)) fun x6 => some (.inl ((0 : Int32), x6))))) else chk (inb x 512) (chk (inb y 512) ((if (σ.1 12 x.toNatClampNeg) = (σ.1 12 y.toNatClampNeg) then chk (inb x 512) ((f_X9_areShownAlike x y (σ.1 12 x.toNatClampNeg) σ).bind fun r4 => (if r4 = (0 : Int32) then nm (y2 + (2 : Int32)) fun x4 => some (.inl ((0 : Int32), x4)) else nm (y2 + (2 : Int32)) fun x5 => some (.inl ((1 : Int32), x5)))) else nm (y2 + (2 : Int32)) fun x3 => some (.inl ((0 : Int32), x3))))))) else nm (y2 + (4 : Int32)) fun x10 => some (.inl (y1, x10))))))
def f_X9_isAsSaid (s : Int32) (x : Int32) (y : Int32) (σ : St) : Option (Int32) := (f_X9_markOf s σ).bind fun r1 => chk (inb s 7) (nm (((40 : Int32) * s) + (σ.1 15 s.toNatClampNeg)) fun x1 => chk (inb x 512) (chk (inb y 512) ((f_X9_allStand r1 x1 (σ.1 10 x.toNatClampNeg) (σ.1 10 y.toNatClampNeg) σ).bind fun r2 => (wh FU (b_X9_isAsSaid_46 x y σ x1) (r2, r1)).bind (fun z1 => chk (isb z1) (some z1)))))
abbrev rm_X9_isAsSaid : Room := { frames := 3, cells := 0, slots := 0, locals := 71 }
set_option maxHeartbeats 4000000 in
set_option maxRecDepth 20000 in
theorem m_X9_isAsSaid (l : Launch) (D : va_G) (cy : Cy) (q : Nat → Nat) (σ : St) (s : Int32) (x : Int32) (y : Int32)  : ∀ res, f_X9_isAsSaid s x y σ = some res → MetX (vM D cy q) l yX9_isAsSaid cX9_isAsSaid 9 (some .boolean) rm_X9_isAsSaid [.ref (q 0), .int s, .int x, .int y] σ (some (.int res), σ) := by
  let fin_ : Int32 → Option Value × St := fun r => (some (.int r), σ)
  have hro : ∀ (z : Int32) (res : Int32), some z = some res → fin_ res = fin_ z := fun z res h => by cases h; rfl
  refine MetX.of1 (fin := fin_) (lv := [(0, .ref (q 0)), (1, .int s), (2, .int x), (3, .int y)]) (by decide) (Nat.le_of_ble_eq_true rfl) rfl ?_
  unfold f_X9_isAsSaid
  refine g_aload_n (pc := 0) 0 dX9_isAsSaid_0 rfl rfl ?_
  refine g_iload_n (pc := 1) 1 dX9_isAsSaid_1 rfl rfl ?_
  refine gV_i (pc := 2) [.int s] [] (m_X9_markOf l D cy q σ s) cw_X9_markOf km_X9_199 ⟨rfl, rfl, by decide, by decide⟩ (Nat.le_of_ble_eq_true rfl) (eM_9 (cy := cy) (σ.1 0) (σ.2 0)) rfl dX9_isAsSaid_2 rfl rfl (Nat.le_of_ble_eq_true rfl) (fun r1 => ?_)
  refine g_istore (pc := 5) (lv' := [(4, .int r1), (0, .ref (q 0)), (1, .int s), (2, .int x), (3, .int y)]) dX9_isAsSaid_5 (Nat.le_of_ble_eq_true rfl) rfl ?_
  refine g_bipush (pc := 7) (40) dX9_isAsSaid_7 (by decide) ?_
  refine g_iload_n (pc := 9) 2 dX9_isAsSaid_9 rfl rfl ?_
  refine g_imul (pc := 10) dX9_isAsSaid_10 ?_
  refine g_aload_n (pc := 11) 1 dX9_isAsSaid_11 rfl rfl ?_
  refine gf_9_signMany (pc := 12) kf_X9_53 dX9_isAsSaid_12 ?_
  refine g_iload_n (pc := 15) 2 dX9_isAsSaid_15 rfl rfl ?_
  refine a_ild (pc := 16) aM_signMany dX9_isAsSaid_16 ?_
  refine g_iadd (pc := 17) dX9_isAsSaid_17 ?_
  refine g_nmi (fun x1 => ?_)
  refine g_istore (pc := 18) (lv' := [(5, .int x1), (4, .int r1), (0, .ref (q 0)), (1, .int s), (2, .int x), (3, .int y)]) dX9_isAsSaid_18 (Nat.le_of_ble_eq_true rfl) rfl ?_
  refine g_aload_n (pc := 20) 2 dX9_isAsSaid_20 rfl rfl ?_
  refine g_iload (pc := 21) 1 dX9_isAsSaid_21 rfl ?_
  refine g_iload (pc := 23) 0 dX9_isAsSaid_23 rfl ?_
  refine g_aload_n (pc := 25) 2 dX9_isAsSaid_25 rfl rfl ?_
  refine gf_9_memoryOf (pc := 26) kf_X9_38 dX9_isAsSaid_26 ?_
  refine g_iload_n (pc := 29) 4 dX9_isAsSaid_29 rfl rfl ?_
  refine a_ild (pc := 30) aM_memoryOf dX9_isAsSaid_30 ?_
  refine g_aload_n (pc := 31) 2 dX9_isAsSaid_31 rfl rfl ?_
  refine gf_9_memoryOf (pc := 32) kf_X9_38 dX9_isAsSaid_32 ?_
  refine g_iload_n (pc := 35) 5 dX9_isAsSaid_35 rfl rfl ?_
  refine a_ild (pc := 36) aM_memoryOf dX9_isAsSaid_36 ?_
  refine gV_i (pc := 37) [.int r1, .int x1, .int (σ.1 10 x.toNatClampNeg), .int (σ.1 10 y.toNatClampNeg)] [] (m_X9_allStand l D cy q σ r1 x1 (σ.1 10 x.toNatClampNeg) (σ.1 10 y.toNatClampNeg)) cw_X9_allStand km_X9_203 ⟨rfl, rfl, by decide, by decide⟩ (Nat.le_of_ble_eq_true rfl) (eM_9 (cy := cy) (σ.1 0) (σ.2 0)) rfl dX9_isAsSaid_37 rfl rfl (Nat.le_of_ble_eq_true rfl) (fun r2 => ?_)
  refine g_istore (pc := 40) (lv' := [(6, .int r2), (5, .int x1), (4, .int r1), (0, .ref (q 0)), (1, .int s), (2, .int x), (3, .int y)]) dX9_isAsSaid_40 (Nat.le_of_ble_eq_true rfl) rfl ?_
  refine g_iload (pc := 42) 2 dX9_isAsSaid_42 rfl ?_
  refine g_istore (pc := 44) (lv' := [(7, .int r1), (6, .int r2), (5, .int x1), (4, .int r1), (0, .ref (q 0)), (1, .int s), (2, .int x), (3, .int y)]) dX9_isAsSaid_44 (Nat.le_of_ble_eq_true rfl) rfl ?_
  refine g_sub [4, 6, 7, 2, 1, 0] rfl ?_
  refine g_wh2 (pc := 46) (s0 := (r2, r1)) (fun (w_ : Int32 × Int32) => σ) (fun (w_ : Int32 × Int32) => [(0, .ref (q 0)), (2, .int x), (3, .int y), (5, .int x1), (6, .int w_.1), (7, .int w_.2)]) (fun (w_ : Int32) => σ) (fun (w_ : Int32) => [(6, .int w_)]) 184 ?_ ?_
  · rintro z1
    try dsimp only [un, Sum.elim_inl]
    refine g_iload (pc := 184) 0 dX9_isAsSaid_184 rfl ?_
    exact g_chk fun hb => g_zret (pc := 186) hb (hro _) rfl dX9_isAsSaid_186
  · intro K46 hx46 ih46
    rintro ⟨y1, y2⟩
    try dsimp only [b_X9_isAsSaid_46, un]
    refine g_iload (pc := 46) 5 dX9_isAsSaid_46 rfl ?_
    refine g_iload (pc := 48) 3 dX9_isAsSaid_48 rfl ?_
    refine g_icmp_ge (pc := 50) 184 dX9_isAsSaid_50 (by decide) ?_ ?_
    · exact g_sub [4] rfl (hx46 y1)
    · refine g_iload (pc := 53) 4 dX9_isAsSaid_53 rfl ?_
      refine g_if_eq (pc := 55) 184 dX9_isAsSaid_55 (by decide) ?_ ?_
      · exact g_sub [4] rfl (hx46 y1)
      · refine g_aload_n (pc := 58) 0 dX9_isAsSaid_58 rfl rfl ?_
        refine gf_9_signs (pc := 59) kf_X9_50 dX9_isAsSaid_59 ?_
        refine g_iload (pc := 62) 5 dX9_isAsSaid_62 rfl ?_
        refine a_ild (pc := 64) aM_signs dX9_isAsSaid_64 ?_
        refine g_nmi (fun x2 => ?_)
        refine g_istore (pc := 65) (lv' := [(8, .int x2), (0, .ref (q 0)), (2, .int x), (3, .int y), (5, .int x1), (6, .int y1), (7, .int y2)]) dX9_isAsSaid_65 (Nat.le_of_ble_eq_true rfl) rfl ?_
        refine g_iload (pc := 67) 0 dX9_isAsSaid_67 rfl ?_
        refine gS_i (pc := 69) [.int x2] [] (m_X9_isLetter l D cy q σ x2) cw_X9_isLetter km_X9_175 ⟨rfl, rfl, by decide, by decide⟩ dX9_isAsSaid_69 rfl rfl (Nat.le_of_ble_eq_true rfl) (fun r3 => ?_)
        refine g_if_eq (pc := 72) 81 dX9_isAsSaid_72 (by decide) ?_ ?_
        · refine g_iload (pc := 81) 0 dX9_isAsSaid_81 rfl ?_
          refine g_bipush (pc := 83) (101) dX9_isAsSaid_83 (by decide) ?_
          refine g_icmp_ne (pc := 85) 111 dX9_isAsSaid_85 (by decide) ?_ ?_
          · refine g_iload (pc := 111) 0 dX9_isAsSaid_111 rfl ?_
            refine g_bipush (pc := 113) (116) dX9_isAsSaid_113 (by decide) ?_
            refine g_icmp_ne (pc := 115) 141 dX9_isAsSaid_115 (by decide) ?_ ?_
            · refine g_aload_n (pc := 141) 1 dX9_isAsSaid_141 rfl rfl ?_
              refine gf_9_shownMany (pc := 142) kf_X9_44 dX9_isAsSaid_142 ?_
              refine g_iload_n (pc := 145) 2 dX9_isAsSaid_145 rfl rfl ?_
              refine a_ild (pc := 146) aM_shownMany dX9_isAsSaid_146 ?_
              refine g_aload_n (pc := 147) 1 dX9_isAsSaid_147 rfl rfl ?_
              refine gf_9_shownMany (pc := 148) kf_X9_44 dX9_isAsSaid_148 ?_
              refine g_iload_n (pc := 151) 3 dX9_isAsSaid_151 rfl rfl ?_
              refine a_ild (pc := 152) aM_shownMany dX9_isAsSaid_152 ?_
              refine g_icmp_ne (pc := 153) 175 dX9_isAsSaid_153 (by decide) ?_ ?_
              · refine g_iconst (pc := 175) (0) dX9_isAsSaid_175 (by decide) ?_
                refine g_istore (pc := 176) (lv' := [(6, .int (0 : Int32)), (8, .int x2), (0, .ref (q 0)), (2, .int x), (3, .int y), (5, .int x1), (7, .int y2)]) dX9_isAsSaid_176 (Nat.le_of_ble_eq_true rfl) rfl ?_
                refine g_iinc (pc := 178) (j := 6) (2) (lf := fun x3 => [(7, .int x3), (6, .int (0 : Int32)), (8, .int x2), (0, .ref (q 0)), (2, .int x), (3, .int y), (5, .int x1)]) dX9_isAsSaid_178 rfl (by decide) (Nat.le_of_ble_eq_true rfl) (fun _ => rfl) (fun x3 => ?_)
                refine g_goto (pc := 181) 46 dX9_isAsSaid_181 (by decide) ?_
                exact g_sub [3, 4, 5, 6, 1, 0] rfl (ih46 ((0 : Int32), x3))
              · refine g_aload_n (pc := 156) 1 dX9_isAsSaid_156 rfl rfl ?_
                refine g_iload_n (pc := 157) 2 dX9_isAsSaid_157 rfl rfl ?_
                refine g_iload_n (pc := 158) 3 dX9_isAsSaid_158 rfl rfl ?_
                refine g_aload_n (pc := 159) 1 dX9_isAsSaid_159 rfl rfl ?_
                refine gf_9_shownMany (pc := 160) kf_X9_44 dX9_isAsSaid_160 ?_
                refine g_iload_n (pc := 163) 2 dX9_isAsSaid_163 rfl rfl ?_
                refine a_ild (pc := 164) aM_shownMany dX9_isAsSaid_164 ?_
                refine gV_i (pc := 165) [.int x, .int y, .int (σ.1 12 x.toNatClampNeg)] [] (m_X9_areShownAlike l D cy q σ x y (σ.1 12 x.toNatClampNeg)) cw_X9_areShownAlike km_X9_206 ⟨rfl, rfl, by decide, by decide⟩ (Nat.le_of_ble_eq_true rfl) (eM_9 (cy := cy) (σ.1 0) (σ.2 0)) rfl dX9_isAsSaid_165 rfl rfl (Nat.le_of_ble_eq_true rfl) (fun r4 => ?_)
                refine g_if_eq (pc := 168) 175 dX9_isAsSaid_168 (by decide) ?_ ?_
                · refine g_iconst (pc := 175) (0) dX9_isAsSaid_175 (by decide) ?_
                  refine g_istore (pc := 176) (lv' := [(6, .int (0 : Int32)), (8, .int x2), (0, .ref (q 0)), (2, .int x), (3, .int y), (5, .int x1), (7, .int y2)]) dX9_isAsSaid_176 (Nat.le_of_ble_eq_true rfl) rfl ?_
                  refine g_iinc (pc := 178) (j := 6) (2) (lf := fun x4 => [(7, .int x4), (6, .int (0 : Int32)), (8, .int x2), (0, .ref (q 0)), (2, .int x), (3, .int y), (5, .int x1)]) dX9_isAsSaid_178 rfl (by decide) (Nat.le_of_ble_eq_true rfl) (fun _ => rfl) (fun x4 => ?_)
                  refine g_goto (pc := 181) 46 dX9_isAsSaid_181 (by decide) ?_
                  exact g_sub [3, 4, 5, 6, 1, 0] rfl (ih46 ((0 : Int32), x4))
                · refine g_iconst (pc := 171) (1) dX9_isAsSaid_171 (by decide) ?_
                  refine g_goto (pc := 172) 176 dX9_isAsSaid_172 (by decide) ?_
                  refine g_istore (pc := 176) (lv' := [(6, .int (1 : Int32)), (8, .int x2), (0, .ref (q 0)), (2, .int x), (3, .int y), (5, .int x1), (7, .int y2)]) dX9_isAsSaid_176 (Nat.le_of_ble_eq_true rfl) rfl ?_
                  refine g_iinc (pc := 178) (j := 6) (2) (lf := fun x5 => [(7, .int x5), (6, .int (1 : Int32)), (8, .int x2), (0, .ref (q 0)), (2, .int x), (3, .int y), (5, .int x1)]) dX9_isAsSaid_178 rfl (by decide) (Nat.le_of_ble_eq_true rfl) (fun _ => rfl) (fun x5 => ?_)
                  refine g_goto (pc := 181) 46 dX9_isAsSaid_181 (by decide) ?_
                  exact g_sub [3, 4, 5, 6, 1, 0] rfl (ih46 ((1 : Int32), x5))
            · refine g_aload_n (pc := 118) 1 dX9_isAsSaid_118 rfl rfl ?_
              refine gf_9_stepsOf (pc := 119) kf_X9_41 dX9_isAsSaid_119 ?_
              refine g_iload_n (pc := 122) 2 dX9_isAsSaid_122 rfl rfl ?_
              refine a_ild (pc := 123) aM_stepsOf dX9_isAsSaid_123 ?_
              refine g_aload_n (pc := 124) 1 dX9_isAsSaid_124 rfl rfl ?_
              refine gf_9_stepsOf (pc := 125) kf_X9_41 dX9_isAsSaid_125 ?_
              refine g_iload_n (pc := 128) 3 dX9_isAsSaid_128 rfl rfl ?_
              refine a_ild (pc := 129) aM_stepsOf dX9_isAsSaid_129 ?_
              refine g_icmp_ne (pc := 130) 137 dX9_isAsSaid_130 (by decide) ?_ ?_
              · refine g_iconst (pc := 137) (0) dX9_isAsSaid_137 (by decide) ?_
                refine g_goto (pc := 138) 176 dX9_isAsSaid_138 (by decide) ?_
                refine g_istore (pc := 176) (lv' := [(6, .int (0 : Int32)), (8, .int x2), (0, .ref (q 0)), (2, .int x), (3, .int y), (5, .int x1), (7, .int y2)]) dX9_isAsSaid_176 (Nat.le_of_ble_eq_true rfl) rfl ?_
                refine g_iinc (pc := 178) (j := 6) (2) (lf := fun x6 => [(7, .int x6), (6, .int (0 : Int32)), (8, .int x2), (0, .ref (q 0)), (2, .int x), (3, .int y), (5, .int x1)]) dX9_isAsSaid_178 rfl (by decide) (Nat.le_of_ble_eq_true rfl) (fun _ => rfl) (fun x6 => ?_)
                refine g_goto (pc := 181) 46 dX9_isAsSaid_181 (by decide) ?_
                exact g_sub [3, 4, 5, 6, 1, 0] rfl (ih46 ((0 : Int32), x6))
              · refine g_iconst (pc := 133) (1) dX9_isAsSaid_133 (by decide) ?_
                refine g_goto (pc := 134) 176 dX9_isAsSaid_134 (by decide) ?_
                refine g_istore (pc := 176) (lv' := [(6, .int (1 : Int32)), (8, .int x2), (0, .ref (q 0)), (2, .int x), (3, .int y), (5, .int x1), (7, .int y2)]) dX9_isAsSaid_176 (Nat.le_of_ble_eq_true rfl) rfl ?_
                refine g_iinc (pc := 178) (j := 6) (2) (lf := fun x7 => [(7, .int x7), (6, .int (1 : Int32)), (8, .int x2), (0, .ref (q 0)), (2, .int x), (3, .int y), (5, .int x1)]) dX9_isAsSaid_178 rfl (by decide) (Nat.le_of_ble_eq_true rfl) (fun _ => rfl) (fun x7 => ?_)
                refine g_goto (pc := 181) 46 dX9_isAsSaid_181 (by decide) ?_
                exact g_sub [3, 4, 5, 6, 1, 0] rfl (ih46 ((1 : Int32), x7))
          · refine g_aload_n (pc := 88) 1 dX9_isAsSaid_88 rfl rfl ?_
            refine gf_9_endOf (pc := 89) kf_X9_35 dX9_isAsSaid_89 ?_
            refine g_iload_n (pc := 92) 2 dX9_isAsSaid_92 rfl rfl ?_
            refine a_ild (pc := 93) aM_endOf dX9_isAsSaid_93 ?_
            refine g_aload_n (pc := 94) 1 dX9_isAsSaid_94 rfl rfl ?_
            refine gf_9_endOf (pc := 95) kf_X9_35 dX9_isAsSaid_95 ?_
            refine g_iload_n (pc := 98) 3 dX9_isAsSaid_98 rfl rfl ?_
            refine a_ild (pc := 99) aM_endOf dX9_isAsSaid_99 ?_
            refine g_icmp_ne (pc := 100) 107 dX9_isAsSaid_100 (by decide) ?_ ?_
            · refine g_iconst (pc := 107) (0) dX9_isAsSaid_107 (by decide) ?_
              refine g_goto (pc := 108) 176 dX9_isAsSaid_108 (by decide) ?_
              refine g_istore (pc := 176) (lv' := [(6, .int (0 : Int32)), (8, .int x2), (0, .ref (q 0)), (2, .int x), (3, .int y), (5, .int x1), (7, .int y2)]) dX9_isAsSaid_176 (Nat.le_of_ble_eq_true rfl) rfl ?_
              refine g_iinc (pc := 178) (j := 6) (2) (lf := fun x8 => [(7, .int x8), (6, .int (0 : Int32)), (8, .int x2), (0, .ref (q 0)), (2, .int x), (3, .int y), (5, .int x1)]) dX9_isAsSaid_178 rfl (by decide) (Nat.le_of_ble_eq_true rfl) (fun _ => rfl) (fun x8 => ?_)
              refine g_goto (pc := 181) 46 dX9_isAsSaid_181 (by decide) ?_
              exact g_sub [3, 4, 5, 6, 1, 0] rfl (ih46 ((0 : Int32), x8))
            · refine g_iconst (pc := 103) (1) dX9_isAsSaid_103 (by decide) ?_
              refine g_goto (pc := 104) 176 dX9_isAsSaid_104 (by decide) ?_
              refine g_istore (pc := 176) (lv' := [(6, .int (1 : Int32)), (8, .int x2), (0, .ref (q 0)), (2, .int x), (3, .int y), (5, .int x1), (7, .int y2)]) dX9_isAsSaid_176 (Nat.le_of_ble_eq_true rfl) rfl ?_
              refine g_iinc (pc := 178) (j := 6) (2) (lf := fun x9 => [(7, .int x9), (6, .int (1 : Int32)), (8, .int x2), (0, .ref (q 0)), (2, .int x), (3, .int y), (5, .int x1)]) dX9_isAsSaid_178 rfl (by decide) (Nat.le_of_ble_eq_true rfl) (fun _ => rfl) (fun x9 => ?_)
              refine g_goto (pc := 181) 46 dX9_isAsSaid_181 (by decide) ?_
              exact g_sub [3, 4, 5, 6, 1, 0] rfl (ih46 ((1 : Int32), x9))
        · refine g_iinc (pc := 75) (j := 6) (4) (lf := fun x10 => [(7, .int x10), (8, .int x2), (0, .ref (q 0)), (2, .int x), (3, .int y), (5, .int x1), (6, .int y1)]) dX9_isAsSaid_75 rfl (by decide) (Nat.le_of_ble_eq_true rfl) (fun _ => rfl) (fun x10 => ?_)
          refine g_goto (pc := 78) 181 dX9_isAsSaid_78 (by decide) ?_
          refine g_goto (pc := 181) 46 dX9_isAsSaid_181 (by decide) ?_
          exact g_sub [2, 3, 4, 5, 6, 0] rfl (ih46 (y1, x10))
def f_X9_pair (saying : Int32) (p : Int32) (start : Int32) (q_ : Int32) (other : Int32) (what : Int32) (σ : St) : Option (Int32 × St) := (f_X9_isSaying saying σ).bind fun r1 => (if r1 = (0 : Int32) then some ((-1 : Int32), σ) else (f_X9_isProgram p).bind fun r2 => (if r2 = (0 : Int32) then some ((-1 : Int32), σ) else (f_X9_isProgram q_).bind fun r3 => (if r3 = (0 : Int32) then some ((-1 : Int32), σ) else (f_X9_isStart start).bind fun r4 => (if r4 = (0 : Int32) then some ((-2 : Int32), σ) else (f_X9_isStart other).bind fun r5 => (if r5 = (0 : Int32) then some ((-2 : Int32), σ) else (f_X9_in what.toInt64 (0 : Int64) (1 : Int64)).bind fun r6 => (if r6 = (0 : Int32) then some ((-2 : Int32), σ) else (f_X9_isMeant saying start other σ).bind fun r7 => (if what = (0 : Int32) then (if r7 = (0 : Int32) then some ((0 : Int32), σ) else some ((1 : Int32), σ)) else (if r7 = (0 : Int32) then (if r7 = (0 : Int32) then some ((0 : Int32), σ) else some ((1 : Int32), σ)) else (f_X9_runOne p start (0 : Int32) σ).bind fun s1 => (f_X9_runOne q_ other (1 : Int32) s1).bind fun s2 => (f_X9_isAsSaid saying (0 : Int32) (1 : Int32) s2).bind fun r8 => (if r8 = (0 : Int32) then some ((1 : Int32), s2) else some ((0 : Int32), s2))))))))))
abbrev rm_X9_pair : Room := { frames := 4, cells := 0, slots := 0, locals := 99 }
set_option maxHeartbeats 4000000 in
set_option maxRecDepth 20000 in
theorem m_X9_pair (l : Launch) (D : va_G) (cy : Cy) (q : Nat → Nat) (σ : St) (saying : Int32) (p : Int32) (start : Int32) (q_ : Int32) (other : Int32) (what : Int32)  : ∀ res, f_X9_pair saying p start q_ other what σ = some res → MetX (vM D cy q) l yX9_pair cX9_pair 8 (some .int) rm_X9_pair [.ref (q 0), .int saying, .int p, .int start, .int q_, .int other, .int what] σ (some (.int res.1), res.2) := by
  let fin_ : (Int32 × St) → Option Value × St := fun r => (some (.int r.1), r.2)
  have hro : ∀ (z : Int32 × St) (res : Int32 × St), some z = some res → fin_ res = fin_ z := fun z res h => by cases h; rfl
  refine MetX.of1 (fin := fin_) (lv := [(0, .ref (q 0)), (1, .int saying), (2, .int p), (3, .int start), (4, .int q_), (5, .int other), (6, .int what)]) (by decide) (Nat.le_of_ble_eq_true rfl) rfl ?_
  unfold f_X9_pair
  refine g_aload_n (pc := 0) 0 dX9_pair_0 rfl rfl ?_
  refine g_iload_n (pc := 1) 1 dX9_pair_1 rfl rfl ?_
  refine gV_i (pc := 2) [.int saying] [] (m_X9_isSaying l D cy q σ saying) cw_X9_isSaying km_X9_209 ⟨rfl, rfl, by decide, by decide⟩ (Nat.le_of_ble_eq_true rfl) (eM_9 (cy := cy) (σ.1 0) (σ.2 0)) rfl dX9_pair_2 rfl rfl (Nat.le_of_ble_eq_true rfl) (fun r1 => ?_)
  refine g_if_eq (pc := 5) 23 dX9_pair_5 (by decide) ?_ ?_
  · refine g_iconst (pc := 23) (-1) dX9_pair_23 (by decide) ?_
    exact g_iret (pc := 24) (hro _) rfl dX9_pair_24
  · refine g_iload_n (pc := 8) 2 dX9_pair_8 rfl rfl ?_
    refine gS_i (pc := 9) [.int p] [] (m_X9_isProgram l D cy q σ p) cw_X9_isProgram km_X9_111 ⟨rfl, rfl, by decide, by decide⟩ dX9_pair_9 rfl rfl (Nat.le_of_ble_eq_true rfl) (fun r2 => ?_)
    refine g_if_eq (pc := 12) 23 dX9_pair_12 (by decide) ?_ ?_
    · refine g_iconst (pc := 23) (-1) dX9_pair_23 (by decide) ?_
      exact g_iret (pc := 24) (hro _) rfl dX9_pair_24
    · refine g_iload (pc := 15) 4 dX9_pair_15 rfl ?_
      refine gS_i (pc := 17) [.int q_] [] (m_X9_isProgram l D cy q σ q_) cw_X9_isProgram km_X9_111 ⟨rfl, rfl, by decide, by decide⟩ dX9_pair_17 rfl rfl (Nat.le_of_ble_eq_true rfl) (fun r3 => ?_)
      refine g_if_ne (pc := 20) 25 dX9_pair_20 (by decide) ?_ ?_
      · refine g_iload_n (pc := 25) 3 dX9_pair_25 rfl rfl ?_
        refine gS_i (pc := 26) [.int start] [] (m_X9_isStart l D cy q σ start) cw_X9_isStart km_X9_162 ⟨rfl, rfl, by decide, by decide⟩ dX9_pair_26 rfl rfl (Nat.le_of_ble_eq_true rfl) (fun r4 => ?_)
        refine g_if_eq (pc := 29) 51 dX9_pair_29 (by decide) ?_ ?_
        · refine g_bipush (pc := 51) (-2) dX9_pair_51 (by decide) ?_
          exact g_iret (pc := 53) (hro _) rfl dX9_pair_53
        · refine g_iload (pc := 32) 5 dX9_pair_32 rfl ?_
          refine gS_i (pc := 34) [.int other] [] (m_X9_isStart l D cy q σ other) cw_X9_isStart km_X9_162 ⟨rfl, rfl, by decide, by decide⟩ dX9_pair_34 rfl rfl (Nat.le_of_ble_eq_true rfl) (fun r5 => ?_)
          refine g_if_eq (pc := 37) 51 dX9_pair_37 (by decide) ?_ ?_
          · refine g_bipush (pc := 51) (-2) dX9_pair_51 (by decide) ?_
            exact g_iret (pc := 53) (hro _) rfl dX9_pair_53
          · refine g_iload (pc := 40) 6 dX9_pair_40 rfl ?_
            refine g_i2l (pc := 42) dX9_pair_42 ?_
            refine g_lconst (pc := 43) (0) dX9_pair_43 (by decide) ?_
            refine g_lconst (pc := 44) (1) dX9_pair_44 (by decide) ?_
            refine gS_i (pc := 45) [.long what.toInt64, .long (0 : Int64), .long (1 : Int64)] [] (m_X9_in l D cy q σ what.toInt64 (0 : Int64) (1 : Int64)) cw_X9_in km_X9_101 ⟨rfl, rfl, by decide, by decide⟩ dX9_pair_45 rfl rfl (Nat.le_of_ble_eq_true rfl) (fun r6 => ?_)
            refine g_if_ne (pc := 48) 54 dX9_pair_48 (by decide) ?_ ?_
            · refine g_aload_n (pc := 54) 0 dX9_pair_54 rfl rfl ?_
              refine g_iload_n (pc := 55) 1 dX9_pair_55 rfl rfl ?_
              refine g_iload_n (pc := 56) 3 dX9_pair_56 rfl rfl ?_
              refine g_iload (pc := 57) 5 dX9_pair_57 rfl ?_
              refine gV_i (pc := 59) [.int saying, .int start, .int other] [] (m_X9_isMeant l D cy q σ saying start other) cw_X9_isMeant km_X9_212 ⟨rfl, rfl, by decide, by decide⟩ (Nat.le_of_ble_eq_true rfl) (eM_9 (cy := cy) (σ.1 0) (σ.2 0)) rfl dX9_pair_59 rfl rfl (Nat.le_of_ble_eq_true rfl) (fun r7 => ?_)
              refine g_istore (pc := 62) (lv' := [(7, .int r7), (0, .ref (q 0)), (1, .int saying), (2, .int p), (3, .int start), (4, .int q_), (5, .int other), (6, .int what)]) dX9_pair_62 (Nat.le_of_ble_eq_true rfl) rfl ?_
              refine g_iload (pc := 64) 7 dX9_pair_64 rfl ?_
              refine g_if_eq (pc := 66) 74 dX9_pair_66 (by decide) ?_ ?_
              · refine g_iload (pc := 74) 0 dX9_pair_74 rfl ?_
                refine g_if_eq (pc := 76) 83 dX9_pair_76 (by decide) ?_ ?_
                · refine g_iconst (pc := 83) (0) dX9_pair_83 (by decide) ?_
                  exact g_iret (pc := 84) (hro _) rfl dX9_pair_84
                · refine g_iconst (pc := 79) (1) dX9_pair_79 (by decide) ?_
                  refine g_goto (pc := 80) 84 dX9_pair_80 (by decide) ?_
                  exact g_iret (pc := 84) (hro _) rfl dX9_pair_84
              · refine g_iload (pc := 69) 0 dX9_pair_69 rfl ?_
                refine g_if_ne (pc := 71) 85 dX9_pair_71 (by decide) ?_ ?_
                · refine g_aload_n (pc := 85) 1 dX9_pair_85 rfl rfl ?_
                  refine g_iload_n (pc := 86) 3 dX9_pair_86 rfl rfl ?_
                  refine g_iload_n (pc := 87) 4 dX9_pair_87 rfl rfl ?_
                  refine g_iconst (pc := 88) (0) dX9_pair_88 (by decide) ?_
                  refine gV_v (pc := 89) [.int p, .int start, .int (0 : Int32)] [] (m_X9_runOne l D cy q σ p start (0 : Int32)) cw_X9_runOne km_X9_157 ⟨rfl, rfl, by decide, by decide⟩ (Nat.le_of_ble_eq_true rfl) (eM_9 (cy := cy) (σ.1 0) (σ.2 0)) rfl dX9_pair_89 rfl rfl (Nat.le_of_ble_eq_true rfl) (fun s1 => ?_)
                  refine g_aload_n (pc := 92) 1 dX9_pair_92 rfl rfl ?_
                  refine g_iload (pc := 93) 5 dX9_pair_93 rfl ?_
                  refine g_iload (pc := 95) 6 dX9_pair_95 rfl ?_
                  refine g_iconst (pc := 97) (1) dX9_pair_97 (by decide) ?_
                  refine gV_v (pc := 98) [.int q_, .int other, .int (1 : Int32)] [] (m_X9_runOne l D cy q s1 q_ other (1 : Int32)) cw_X9_runOne km_X9_157 ⟨rfl, rfl, by decide, by decide⟩ (Nat.le_of_ble_eq_true rfl) (eM_9 (cy := cy) (s1.1 0) (s1.2 0)) rfl dX9_pair_98 rfl rfl (Nat.le_of_ble_eq_true rfl) (fun s2 => ?_)
                  refine g_aload_n (pc := 101) 1 dX9_pair_101 rfl rfl ?_
                  refine g_iload_n (pc := 102) 2 dX9_pair_102 rfl rfl ?_
                  refine g_iconst (pc := 103) (0) dX9_pair_103 (by decide) ?_
                  refine g_iconst (pc := 104) (1) dX9_pair_104 (by decide) ?_
                  refine gV_i (pc := 105) [.int saying, .int (0 : Int32), .int (1 : Int32)] [] (m_X9_isAsSaid l D cy q s2 saying (0 : Int32) (1 : Int32)) cw_X9_isAsSaid km_X9_215 ⟨rfl, rfl, by decide, by decide⟩ (Nat.le_of_ble_eq_true rfl) (eM_9 (cy := cy) (s2.1 0) (s2.2 0)) rfl dX9_pair_105 rfl rfl (Nat.le_of_ble_eq_true rfl) (fun r8 => ?_)
                  refine g_if_eq (pc := 108) 115 dX9_pair_108 (by decide) ?_ ?_
                  · refine g_iconst (pc := 115) (1) dX9_pair_115 (by decide) ?_
                    exact g_iret (pc := 116) (hro _) rfl dX9_pair_116
                  · refine g_iconst (pc := 111) (0) dX9_pair_111 (by decide) ?_
                    refine g_goto (pc := 112) 116 dX9_pair_112 (by decide) ?_
                    exact g_iret (pc := 116) (hro _) rfl dX9_pair_116
                · refine g_iload (pc := 74) 0 dX9_pair_74 rfl ?_
                  refine g_if_eq (pc := 76) 83 dX9_pair_76 (by decide) ?_ ?_
                  · refine g_iconst (pc := 83) (0) dX9_pair_83 (by decide) ?_
                    exact g_iret (pc := 84) (hro _) rfl dX9_pair_84
                  · refine g_iconst (pc := 79) (1) dX9_pair_79 (by decide) ?_
                    refine g_goto (pc := 80) 84 dX9_pair_80 (by decide) ?_
                    exact g_iret (pc := 84) (hro _) rfl dX9_pair_84
            · refine g_bipush (pc := 51) (-2) dX9_pair_51 (by decide) ?_
              exact g_iret (pc := 53) (hro _) rfl dX9_pair_53
      · refine g_iconst (pc := 23) (-1) dX9_pair_23 (by decide) ?_
        exact g_iret (pc := 24) (hro _) rfl dX9_pair_24
def b_X9_findPairs_36 (s : Int32) (y1 : Int32) : (Int32 × Int32 × St) → Option ((Int32 × Int32 × St) ⊕ (Int32 × St)) := un fun y2 => un fun y3 s6 => (if (256 : Int32) ≤ y3 then some (.inr (y2, s6)) else (f_X9_isMeant s y1 y3 s6).bind fun r1 => (if r1 = (0 : Int32) then nm (y3 + (1 : Int32)) fun x1 => some (.inl (y2, x1, s6)) else (f_X9_isAsSaid s y1 ((256 : Int32) + y3) s6).bind fun r2 => nm (stI s6 0 25 ((s6.1 0 25) + (1 : Int32))) fun s7 => (if y2 = (0 : Int32) then (if r2 = (0 : Int32) then (if r2 = (0 : Int32) then (if (s7.1 0 23) = (0 : Int32) then nm (stI s7 0 24 (((256 : Int32) * y1) + y3)) fun s23 => (if r2 = (0 : Int32) then nm (stI s23 0 23 ((s23.1 0 23) + (1 : Int32))) fun s24 => nm (y3 + (1 : Int32)) fun x12 => some (.inl ((0 : Int32), x12, s24)) else nm (stI s23 0 23 ((s23.1 0 23) + (0 : Int32))) fun s25 => nm (y3 + (1 : Int32)) fun x13 => some (.inl ((0 : Int32), x13, s25))) else nm (stI s7 0 24 (s7.1 0 24)) fun s20 => (if r2 = (0 : Int32) then nm (stI s20 0 23 ((s20.1 0 23) + (1 : Int32))) fun s21 => nm (y3 + (1 : Int32)) fun x10 => some (.inl ((0 : Int32), x10, s21)) else nm (stI s20 0 23 ((s20.1 0 23) + (0 : Int32))) fun s22 => nm (y3 + (1 : Int32)) fun x11 => some (.inl ((0 : Int32), x11, s22)))) else nm (stI s7 0 24 (s7.1 0 24)) fun s17 => (if r2 = (0 : Int32) then nm (stI s17 0 23 ((s17.1 0 23) + (1 : Int32))) fun s18 => nm (y3 + (1 : Int32)) fun x8 => some (.inl ((0 : Int32), x8, s18)) else nm (stI s17 0 23 ((s17.1 0 23) + (0 : Int32))) fun s19 => nm (y3 + (1 : Int32)) fun x9 => some (.inl ((0 : Int32), x9, s19)))) else (if r2 = (0 : Int32) then (if (s7.1 0 23) = (0 : Int32) then nm (stI s7 0 24 (((256 : Int32) * y1) + y3)) fun s32 => (if r2 = (0 : Int32) then nm (stI s32 0 23 ((s32.1 0 23) + (1 : Int32))) fun s33 => nm (y3 + (1 : Int32)) fun x18 => some (.inl ((1 : Int32), x18, s33)) else nm (stI s32 0 23 ((s32.1 0 23) + (0 : Int32))) fun s34 => nm (y3 + (1 : Int32)) fun x19 => some (.inl ((1 : Int32), x19, s34))) else nm (stI s7 0 24 (s7.1 0 24)) fun s29 => (if r2 = (0 : Int32) then nm (stI s29 0 23 ((s29.1 0 23) + (1 : Int32))) fun s30 => nm (y3 + (1 : Int32)) fun x16 => some (.inl ((1 : Int32), x16, s30)) else nm (stI s29 0 23 ((s29.1 0 23) + (0 : Int32))) fun s31 => nm (y3 + (1 : Int32)) fun x17 => some (.inl ((1 : Int32), x17, s31)))) else nm (stI s7 0 24 (s7.1 0 24)) fun s26 => (if r2 = (0 : Int32) then nm (stI s26 0 23 ((s26.1 0 23) + (1 : Int32))) fun s27 => nm (y3 + (1 : Int32)) fun x14 => some (.inl ((1 : Int32), x14, s27)) else nm (stI s26 0 23 ((s26.1 0 23) + (0 : Int32))) fun s28 => nm (y3 + (1 : Int32)) fun x15 => some (.inl ((1 : Int32), x15, s28))))) else (if r2 = (0 : Int32) then (if (s7.1 0 23) = (0 : Int32) then nm (stI s7 0 24 (((256 : Int32) * y1) + y3)) fun s14 => (if r2 = (0 : Int32) then nm (stI s14 0 23 ((s14.1 0 23) + (1 : Int32))) fun s15 => nm (y3 + (1 : Int32)) fun x6 => some (.inl ((1 : Int32), x6, s15)) else nm (stI s14 0 23 ((s14.1 0 23) + (0 : Int32))) fun s16 => nm (y3 + (1 : Int32)) fun x7 => some (.inl ((1 : Int32), x7, s16))) else nm (stI s7 0 24 (s7.1 0 24)) fun s11 => (if r2 = (0 : Int32) then nm (stI s11 0 23 ((s11.1 0 23) + (1 : Int32))) fun s12 => nm (y3 + (1 : Int32)) fun x4 => some (.inl ((1 : Int32), x4, s12)) else nm (stI s11 0 23 ((s11.1 0 23) + (0 : Int32))) fun s13 => nm (y3 + (1 : Int32)) fun x5 => some (.inl ((1 : Int32), x5, s13)))) else nm (stI s7 0 24 (s7.1 0 24)) fun s8 => (if r2 = (0 : Int32) then nm (stI s8 0 23 ((s8.1 0 23) + (1 : Int32))) fun s9 => nm (y3 + (1 : Int32)) fun x2 => some (.inl ((1 : Int32), x2, s9)) else nm (stI s8 0 23 ((s8.1 0 23) + (0 : Int32))) fun s10 => nm (y3 + (1 : Int32)) fun x3 => some (.inl ((1 : Int32), x3, s10)))))))
def b_X9_findPairs_24 (s : Int32) : (Int32 × St) → Option ((Int32 × St) ⊕ (St)) := un fun y1 s5 => (if (256 : Int32) ≤ y1 then some (.inr s5) else (wh FU (b_X9_findPairs_36 s y1) ((0 : Int32), (0 : Int32), s5)).bind (un fun z1 s35 => (if z1 = (0 : Int32) then (if (s35.1 0 26) < (0 : Int32) then nm (stI s35 0 26 y1) fun s37 => nm (y1 + (1 : Int32)) fun x21 => some (.inl (x21, s37)) else nm (stI s35 0 26 (s35.1 0 26)) fun s38 => nm (y1 + (1 : Int32)) fun x22 => some (.inl (x22, s38))) else nm (stI s35 0 26 (s35.1 0 26)) fun s36 => nm (y1 + (1 : Int32)) fun x20 => some (.inl (x20, s36)))))
def f_X9_findPairs (s : Int32) (σ : St) : Option (St) := nm (stI σ 0 23 (0 : Int32)) fun s1 => nm (stI s1 0 24 (-6 : Int32)) fun s2 => nm (stI s2 0 25 (0 : Int32)) fun s3 => nm (stI s3 0 26 (-6 : Int32)) fun s4 => (wh FU (b_X9_findPairs_24 s) ((0 : Int32), s4)).bind (fun s39 => some s39)
abbrev rm_X9_findPairs : Room := { frames := 4, cells := 0, slots := 0, locals := 99 }
set_option maxHeartbeats 4000000 in
set_option maxRecDepth 20000 in
theorem m_X9_findPairs (l : Launch) (D : va_G) (cy : Cy) (q : Nat → Nat) (σ : St) (s : Int32)  : ∀ res, f_X9_findPairs s σ = some res → MetX (vM D cy q) l yX9_findPairs cX9_findPairs 6 none rm_X9_findPairs [.ref (q 0), .int s] σ (none, res) := by
  let fin_ : St → Option Value × St := fun r => (none, r)
  have hro : ∀ (z : St) (res : St), some z = some res → fin_ res = fin_ z := fun z res h => by cases h; rfl
  refine MetX.of1 (fin := fin_) (lv := [(0, .ref (q 0)), (1, .int s)]) (by decide) (Nat.le_of_ble_eq_true rfl) rfl ?_
  unfold f_X9_findPairs
  refine g_aload_n (pc := 0) 0 dX9_findPairs_0 rfl rfl ?_
  refine g_iconst (pc := 1) (0) dX9_findPairs_1 (by decide) ?_
  refine gp_9_brokenMany (pc := 2) kf_X9_218 dX9_findPairs_2 (fun s1 => ?_)
  refine g_aload_n (pc := 5) 0 dX9_findPairs_5 rfl rfl ?_
  refine g_bipush (pc := 6) (-6) dX9_findPairs_6 (by decide) ?_
  refine gp_9_brokenFirst (pc := 8) kf_X9_221 dX9_findPairs_8 (fun s2 => ?_)
  refine g_aload_n (pc := 11) 0 dX9_findPairs_11 rfl rfl ?_
  refine g_iconst (pc := 12) (0) dX9_findPairs_12 (by decide) ?_
  refine gp_9_meantMany (pc := 13) kf_X9_224 dX9_findPairs_13 (fun s3 => ?_)
  refine g_aload_n (pc := 16) 0 dX9_findPairs_16 rfl rfl ?_
  refine g_bipush (pc := 17) (-6) dX9_findPairs_17 (by decide) ?_
  refine gp_9_lone (pc := 19) kf_X9_227 dX9_findPairs_19 (fun s4 => ?_)
  refine g_iconst (pc := 22) (0) dX9_findPairs_22 (by decide) ?_
  refine g_istore_n (pc := 23) (lv' := [(2, .int (0 : Int32)), (0, .ref (q 0)), (1, .int s)]) dX9_findPairs_23 rfl (Nat.le_of_ble_eq_true rfl) rfl ?_
  refine g_sub [1, 2, 0] rfl ?_
  refine g_wh2 (pc := 24) (s0 := ((0 : Int32), s4)) (fun (w_ : Int32 × St) => w_.2) (fun (w_ : Int32 × St) => [(0, .ref (q 0)), (1, .int s), (2, .int w_.1)]) (fun (w_ : St) => w_) (fun (w_ : St) => []) 179 ?_ ?_
  · rintro s39
    try dsimp only [un, Sum.elim_inl]
    exact g_vret (pc := 179) (hro _) rfl dX9_findPairs_179
  · intro K24 hx24 ih24
    rintro ⟨y1, s5⟩
    try dsimp only [b_X9_findPairs_24, un]
    refine g_iload_n (pc := 24) 2 dX9_findPairs_24 rfl rfl ?_
    refine g_sipush (pc := 25) (256) dX9_findPairs_25 (by decide) ?_
    refine g_icmp_ge (pc := 28) 179 dX9_findPairs_28 (by decide) ?_ ?_
    · exact g_sub [] rfl (hx24 s5)
    · refine g_iconst (pc := 31) (0) dX9_findPairs_31 (by decide) ?_
      refine g_istore_n (pc := 32) (lv' := [(3, .int (0 : Int32)), (0, .ref (q 0)), (1, .int s), (2, .int y1)]) dX9_findPairs_32 rfl (Nat.le_of_ble_eq_true rfl) rfl ?_
      refine g_iconst (pc := 33) (0) dX9_findPairs_33 (by decide) ?_
      refine g_istore (pc := 34) (lv' := [(4, .int (0 : Int32)), (3, .int (0 : Int32)), (0, .ref (q 0)), (1, .int s), (2, .int y1)]) dX9_findPairs_34 (Nat.le_of_ble_eq_true rfl) rfl ?_
      refine g_sub [2, 3, 4, 1, 0] rfl ?_
      refine g_wh2 (pc := 36) (s0 := ((0 : Int32), (0 : Int32), s5)) (fun (w_ : Int32 × Int32 × St) => w_.2.2) (fun (w_ : Int32 × Int32 × St) => [(0, .ref (q 0)), (1, .int s), (2, .int y1), (3, .int w_.1), (4, .int w_.2.1)]) (fun (w_ : Int32 × St) => w_.2) (fun (w_ : Int32 × St) => [(0, .ref (q 0)), (1, .int s), (2, .int y1), (3, .int w_.1)]) 150 ?_ ?_
      · rintro ⟨z1, s35⟩
        try dsimp only [un, Sum.elim_inl]
        refine g_aload_n (pc := 150) 0 dX9_findPairs_150 rfl rfl ?_
        refine g_iload_n (pc := 151) 3 dX9_findPairs_151 rfl rfl ?_
        refine g_if_ne (pc := 152) 162 dX9_findPairs_152 (by decide) ?_ ?_
        · refine g_aload_n (pc := 162) 0 dX9_findPairs_162 rfl rfl ?_
          refine gf_9_lone (pc := 163) kf_X9_227 dX9_findPairs_163 ?_
          refine g_goto (pc := 166) 170 dX9_findPairs_166 (by decide) ?_
          refine gp_9_lone (pc := 170) kf_X9_227 dX9_findPairs_170 (fun s36 => ?_)
          refine g_iinc (pc := 173) (j := 2) (1) (lf := fun x20 => [(2, .int x20), (0, .ref (q 0)), (1, .int s), (3, .int z1)]) dX9_findPairs_173 rfl (by decide) (Nat.le_of_ble_eq_true rfl) (fun _ => rfl) (fun x20 => ?_)
          refine g_goto (pc := 176) 24 dX9_findPairs_176 (by decide) ?_
          exact g_sub [1, 2, 0] rfl (ih24 (x20, s36))
        · refine g_aload_n (pc := 155) 0 dX9_findPairs_155 rfl rfl ?_
          refine gf_9_lone (pc := 156) kf_X9_227 dX9_findPairs_156 ?_
          refine g_if_lt (pc := 159) 169 dX9_findPairs_159 (by decide) ?_ ?_
          · refine g_iload_n (pc := 169) 2 dX9_findPairs_169 rfl rfl ?_
            refine gp_9_lone (pc := 170) kf_X9_227 dX9_findPairs_170 (fun s37 => ?_)
            refine g_iinc (pc := 173) (j := 2) (1) (lf := fun x21 => [(2, .int x21), (0, .ref (q 0)), (1, .int s), (3, .int z1)]) dX9_findPairs_173 rfl (by decide) (Nat.le_of_ble_eq_true rfl) (fun _ => rfl) (fun x21 => ?_)
            refine g_goto (pc := 176) 24 dX9_findPairs_176 (by decide) ?_
            exact g_sub [1, 2, 0] rfl (ih24 (x21, s37))
          · refine g_aload_n (pc := 162) 0 dX9_findPairs_162 rfl rfl ?_
            refine gf_9_lone (pc := 163) kf_X9_227 dX9_findPairs_163 ?_
            refine g_goto (pc := 166) 170 dX9_findPairs_166 (by decide) ?_
            refine gp_9_lone (pc := 170) kf_X9_227 dX9_findPairs_170 (fun s38 => ?_)
            refine g_iinc (pc := 173) (j := 2) (1) (lf := fun x22 => [(2, .int x22), (0, .ref (q 0)), (1, .int s), (3, .int z1)]) dX9_findPairs_173 rfl (by decide) (Nat.le_of_ble_eq_true rfl) (fun _ => rfl) (fun x22 => ?_)
            refine g_goto (pc := 176) 24 dX9_findPairs_176 (by decide) ?_
            exact g_sub [1, 2, 0] rfl (ih24 (x22, s38))
      · intro K36 hx36 ih36
        rintro ⟨y2, y3, s6⟩
        try dsimp only [b_X9_findPairs_36, un]
        refine g_iload (pc := 36) 4 dX9_findPairs_36 rfl ?_
        refine g_sipush (pc := 38) (256) dX9_findPairs_38 (by decide) ?_
        refine g_icmp_ge (pc := 41) 150 dX9_findPairs_41 (by decide) ?_ ?_
        · exact g_sub [0, 1, 2, 3] rfl (hx36 (y2, s6))
        · refine g_aload_n (pc := 44) 0 dX9_findPairs_44 rfl rfl ?_
          refine g_iload_n (pc := 45) 1 dX9_findPairs_45 rfl rfl ?_
          refine g_iload_n (pc := 46) 2 dX9_findPairs_46 rfl rfl ?_
          refine g_iload (pc := 47) 4 dX9_findPairs_47 rfl ?_
          refine gV_i (pc := 49) [.int s, .int y1, .int y3] [] (m_X9_isMeant l D cy q s6 s y1 y3) cw_X9_isMeant km_X9_212 ⟨rfl, rfl, by decide, by decide⟩ (Nat.le_of_ble_eq_true rfl) (eM_9 (cy := cy) (s6.1 0) (s6.2 0)) rfl dX9_findPairs_49 rfl rfl (Nat.le_of_ble_eq_true rfl) (fun r1 => ?_)
          refine g_if_eq (pc := 52) 144 dX9_findPairs_52 (by decide) ?_ ?_
          · refine g_iinc (pc := 144) (j := 4) (1) (lf := fun x1 => [(4, .int x1), (0, .ref (q 0)), (1, .int s), (2, .int y1), (3, .int y2)]) dX9_findPairs_144 rfl (by decide) (Nat.le_of_ble_eq_true rfl) (fun _ => rfl) (fun x1 => ?_)
            refine g_goto (pc := 147) 36 dX9_findPairs_147 (by decide) ?_
            exact g_sub [1, 2, 3, 4, 0] rfl (ih36 (y2, x1, s6))
          · refine g_aload_n (pc := 55) 0 dX9_findPairs_55 rfl rfl ?_
            refine g_iload_n (pc := 56) 1 dX9_findPairs_56 rfl rfl ?_
            refine g_iload_n (pc := 57) 2 dX9_findPairs_57 rfl rfl ?_
            refine g_sipush (pc := 58) (256) dX9_findPairs_58 (by decide) ?_
            refine g_iload (pc := 61) 4 dX9_findPairs_61 rfl ?_
            refine g_iadd (pc := 63) dX9_findPairs_63 ?_
            refine gV_i (pc := 64) [.int s, .int y1, .int ((256 : Int32) + y3)] [] (m_X9_isAsSaid l D cy q s6 s y1 ((256 : Int32) + y3)) cw_X9_isAsSaid km_X9_215 ⟨rfl, rfl, by decide, by decide⟩ (Nat.le_of_ble_eq_true rfl) (eM_9 (cy := cy) (s6.1 0) (s6.2 0)) rfl dX9_findPairs_64 rfl rfl (Nat.le_of_ble_eq_true rfl) (fun r2 => ?_)
            refine g_istore (pc := 67) (lv' := [(5, .int r2), (0, .ref (q 0)), (1, .int s), (2, .int y1), (3, .int y2), (4, .int y3)]) dX9_findPairs_67 (Nat.le_of_ble_eq_true rfl) rfl ?_
            refine g_aload_n (pc := 69) 1 dX9_findPairs_69 rfl rfl ?_
            refine g_dup (pc := 70) dX9_findPairs_70 rfl ?_
            refine gf_9_meantMany (pc := 71) kf_X9_224 dX9_findPairs_71 ?_
            refine g_iconst (pc := 74) (1) dX9_findPairs_74 (by decide) ?_
            refine g_iadd (pc := 75) dX9_findPairs_75 ?_
            refine gp_9_meantMany (pc := 76) kf_X9_224 dX9_findPairs_76 (fun s7 => ?_)
            refine g_iload_n (pc := 79) 4 dX9_findPairs_79 rfl rfl ?_
            refine g_if_ne (pc := 80) 88 dX9_findPairs_80 (by decide) ?_ ?_
            · refine g_iconst (pc := 88) (1) dX9_findPairs_88 (by decide) ?_
              refine g_goto (pc := 89) 93 dX9_findPairs_89 (by decide) ?_
              refine g_istore_n (pc := 93) (lv' := [(3, .int (1 : Int32)), (5, .int r2), (0, .ref (q 0)), (1, .int s), (2, .int y1), (4, .int y3)]) dX9_findPairs_93 rfl (Nat.le_of_ble_eq_true rfl) rfl ?_
              refine g_aload_n (pc := 94) 2 dX9_findPairs_94 rfl rfl ?_
              refine g_iload (pc := 95) 1 dX9_findPairs_95 rfl ?_
              refine g_if_ne (pc := 97) 118 dX9_findPairs_97 (by decide) ?_ ?_
              · refine g_aload_n (pc := 118) 2 dX9_findPairs_118 rfl rfl ?_
                refine gf_9_brokenFirst (pc := 119) kf_X9_221 dX9_findPairs_119 ?_
                refine gp_9_brokenFirst (pc := 122) kf_X9_221 dX9_findPairs_122 (fun s8 => ?_)
                refine g_aload_n (pc := 125) 2 dX9_findPairs_125 rfl rfl ?_
                refine g_dup (pc := 126) dX9_findPairs_126 rfl ?_
                refine gf_9_brokenMany (pc := 127) kf_X9_218 dX9_findPairs_127 ?_
                refine g_iload (pc := 130) 1 dX9_findPairs_130 rfl ?_
                refine g_if_eq (pc := 132) 139 dX9_findPairs_132 (by decide) ?_ ?_
                · refine g_iconst (pc := 139) (1) dX9_findPairs_139 (by decide) ?_
                  refine g_iadd (pc := 140) dX9_findPairs_140 ?_
                  refine gp_9_brokenMany (pc := 141) kf_X9_218 dX9_findPairs_141 (fun s9 => ?_)
                  refine g_iinc (pc := 144) (j := 5) (1) (lf := fun x2 => [(4, .int x2), (3, .int (1 : Int32)), (5, .int r2), (0, .ref (q 0)), (1, .int s), (2, .int y1)]) dX9_findPairs_144 rfl (by decide) (Nat.le_of_ble_eq_true rfl) (fun _ => rfl) (fun x2 => ?_)
                  refine g_goto (pc := 147) 36 dX9_findPairs_147 (by decide) ?_
                  exact g_sub [3, 4, 5, 1, 0] rfl (ih36 ((1 : Int32), x2, s9))
                · refine g_iconst (pc := 135) (0) dX9_findPairs_135 (by decide) ?_
                  refine g_goto (pc := 136) 140 dX9_findPairs_136 (by decide) ?_
                  refine g_iadd (pc := 140) dX9_findPairs_140 ?_
                  refine gp_9_brokenMany (pc := 141) kf_X9_218 dX9_findPairs_141 (fun s10 => ?_)
                  refine g_iinc (pc := 144) (j := 5) (1) (lf := fun x3 => [(4, .int x3), (3, .int (1 : Int32)), (5, .int r2), (0, .ref (q 0)), (1, .int s), (2, .int y1)]) dX9_findPairs_144 rfl (by decide) (Nat.le_of_ble_eq_true rfl) (fun _ => rfl) (fun x3 => ?_)
                  refine g_goto (pc := 147) 36 dX9_findPairs_147 (by decide) ?_
                  exact g_sub [3, 4, 5, 1, 0] rfl (ih36 ((1 : Int32), x3, s10))
              · refine g_aload_n (pc := 100) 2 dX9_findPairs_100 rfl rfl ?_
                refine gf_9_brokenMany (pc := 101) kf_X9_218 dX9_findPairs_101 ?_
                refine g_if_ne (pc := 104) 118 dX9_findPairs_104 (by decide) ?_ ?_
                · refine g_aload_n (pc := 118) 2 dX9_findPairs_118 rfl rfl ?_
                  refine gf_9_brokenFirst (pc := 119) kf_X9_221 dX9_findPairs_119 ?_
                  refine gp_9_brokenFirst (pc := 122) kf_X9_221 dX9_findPairs_122 (fun s11 => ?_)
                  refine g_aload_n (pc := 125) 2 dX9_findPairs_125 rfl rfl ?_
                  refine g_dup (pc := 126) dX9_findPairs_126 rfl ?_
                  refine gf_9_brokenMany (pc := 127) kf_X9_218 dX9_findPairs_127 ?_
                  refine g_iload (pc := 130) 1 dX9_findPairs_130 rfl ?_
                  refine g_if_eq (pc := 132) 139 dX9_findPairs_132 (by decide) ?_ ?_
                  · refine g_iconst (pc := 139) (1) dX9_findPairs_139 (by decide) ?_
                    refine g_iadd (pc := 140) dX9_findPairs_140 ?_
                    refine gp_9_brokenMany (pc := 141) kf_X9_218 dX9_findPairs_141 (fun s12 => ?_)
                    refine g_iinc (pc := 144) (j := 5) (1) (lf := fun x4 => [(4, .int x4), (3, .int (1 : Int32)), (5, .int r2), (0, .ref (q 0)), (1, .int s), (2, .int y1)]) dX9_findPairs_144 rfl (by decide) (Nat.le_of_ble_eq_true rfl) (fun _ => rfl) (fun x4 => ?_)
                    refine g_goto (pc := 147) 36 dX9_findPairs_147 (by decide) ?_
                    exact g_sub [3, 4, 5, 1, 0] rfl (ih36 ((1 : Int32), x4, s12))
                  · refine g_iconst (pc := 135) (0) dX9_findPairs_135 (by decide) ?_
                    refine g_goto (pc := 136) 140 dX9_findPairs_136 (by decide) ?_
                    refine g_iadd (pc := 140) dX9_findPairs_140 ?_
                    refine gp_9_brokenMany (pc := 141) kf_X9_218 dX9_findPairs_141 (fun s13 => ?_)
                    refine g_iinc (pc := 144) (j := 5) (1) (lf := fun x5 => [(4, .int x5), (3, .int (1 : Int32)), (5, .int r2), (0, .ref (q 0)), (1, .int s), (2, .int y1)]) dX9_findPairs_144 rfl (by decide) (Nat.le_of_ble_eq_true rfl) (fun _ => rfl) (fun x5 => ?_)
                    refine g_goto (pc := 147) 36 dX9_findPairs_147 (by decide) ?_
                    exact g_sub [3, 4, 5, 1, 0] rfl (ih36 ((1 : Int32), x5, s13))
                · refine g_sipush (pc := 107) (256) dX9_findPairs_107 (by decide) ?_
                  refine g_iload_n (pc := 110) 4 dX9_findPairs_110 rfl rfl ?_
                  refine g_imul (pc := 111) dX9_findPairs_111 ?_
                  refine g_iload (pc := 112) 5 dX9_findPairs_112 rfl ?_
                  refine g_iadd (pc := 114) dX9_findPairs_114 ?_
                  refine g_goto (pc := 115) 122 dX9_findPairs_115 (by decide) ?_
                  refine gp_9_brokenFirst (pc := 122) kf_X9_221 dX9_findPairs_122 (fun s14 => ?_)
                  refine g_aload_n (pc := 125) 2 dX9_findPairs_125 rfl rfl ?_
                  refine g_dup (pc := 126) dX9_findPairs_126 rfl ?_
                  refine gf_9_brokenMany (pc := 127) kf_X9_218 dX9_findPairs_127 ?_
                  refine g_iload (pc := 130) 1 dX9_findPairs_130 rfl ?_
                  refine g_if_eq (pc := 132) 139 dX9_findPairs_132 (by decide) ?_ ?_
                  · refine g_iconst (pc := 139) (1) dX9_findPairs_139 (by decide) ?_
                    refine g_iadd (pc := 140) dX9_findPairs_140 ?_
                    refine gp_9_brokenMany (pc := 141) kf_X9_218 dX9_findPairs_141 (fun s15 => ?_)
                    refine g_iinc (pc := 144) (j := 5) (1) (lf := fun x6 => [(4, .int x6), (3, .int (1 : Int32)), (5, .int r2), (0, .ref (q 0)), (1, .int s), (2, .int y1)]) dX9_findPairs_144 rfl (by decide) (Nat.le_of_ble_eq_true rfl) (fun _ => rfl) (fun x6 => ?_)
                    refine g_goto (pc := 147) 36 dX9_findPairs_147 (by decide) ?_
                    exact g_sub [3, 4, 5, 1, 0] rfl (ih36 ((1 : Int32), x6, s15))
                  · refine g_iconst (pc := 135) (0) dX9_findPairs_135 (by decide) ?_
                    refine g_goto (pc := 136) 140 dX9_findPairs_136 (by decide) ?_
                    refine g_iadd (pc := 140) dX9_findPairs_140 ?_
                    refine gp_9_brokenMany (pc := 141) kf_X9_218 dX9_findPairs_141 (fun s16 => ?_)
                    refine g_iinc (pc := 144) (j := 5) (1) (lf := fun x7 => [(4, .int x7), (3, .int (1 : Int32)), (5, .int r2), (0, .ref (q 0)), (1, .int s), (2, .int y1)]) dX9_findPairs_144 rfl (by decide) (Nat.le_of_ble_eq_true rfl) (fun _ => rfl) (fun x7 => ?_)
                    refine g_goto (pc := 147) 36 dX9_findPairs_147 (by decide) ?_
                    exact g_sub [3, 4, 5, 1, 0] rfl (ih36 ((1 : Int32), x7, s16))
            · refine g_iload (pc := 83) 0 dX9_findPairs_83 rfl ?_
              refine g_if_eq (pc := 85) 92 dX9_findPairs_85 (by decide) ?_ ?_
              · refine g_iconst (pc := 92) (0) dX9_findPairs_92 (by decide) ?_
                refine g_istore_n (pc := 93) (lv' := [(3, .int (0 : Int32)), (5, .int r2), (0, .ref (q 0)), (1, .int s), (2, .int y1), (4, .int y3)]) dX9_findPairs_93 rfl (Nat.le_of_ble_eq_true rfl) rfl ?_
                refine g_aload_n (pc := 94) 2 dX9_findPairs_94 rfl rfl ?_
                refine g_iload (pc := 95) 1 dX9_findPairs_95 rfl ?_
                refine g_if_ne (pc := 97) 118 dX9_findPairs_97 (by decide) ?_ ?_
                · refine g_aload_n (pc := 118) 2 dX9_findPairs_118 rfl rfl ?_
                  refine gf_9_brokenFirst (pc := 119) kf_X9_221 dX9_findPairs_119 ?_
                  refine gp_9_brokenFirst (pc := 122) kf_X9_221 dX9_findPairs_122 (fun s17 => ?_)
                  refine g_aload_n (pc := 125) 2 dX9_findPairs_125 rfl rfl ?_
                  refine g_dup (pc := 126) dX9_findPairs_126 rfl ?_
                  refine gf_9_brokenMany (pc := 127) kf_X9_218 dX9_findPairs_127 ?_
                  refine g_iload (pc := 130) 1 dX9_findPairs_130 rfl ?_
                  refine g_if_eq (pc := 132) 139 dX9_findPairs_132 (by decide) ?_ ?_
                  · refine g_iconst (pc := 139) (1) dX9_findPairs_139 (by decide) ?_
                    refine g_iadd (pc := 140) dX9_findPairs_140 ?_
                    refine gp_9_brokenMany (pc := 141) kf_X9_218 dX9_findPairs_141 (fun s18 => ?_)
                    refine g_iinc (pc := 144) (j := 5) (1) (lf := fun x8 => [(4, .int x8), (3, .int (0 : Int32)), (5, .int r2), (0, .ref (q 0)), (1, .int s), (2, .int y1)]) dX9_findPairs_144 rfl (by decide) (Nat.le_of_ble_eq_true rfl) (fun _ => rfl) (fun x8 => ?_)
                    refine g_goto (pc := 147) 36 dX9_findPairs_147 (by decide) ?_
                    exact g_sub [3, 4, 5, 1, 0] rfl (ih36 ((0 : Int32), x8, s18))
                  · refine g_iconst (pc := 135) (0) dX9_findPairs_135 (by decide) ?_
                    refine g_goto (pc := 136) 140 dX9_findPairs_136 (by decide) ?_
                    refine g_iadd (pc := 140) dX9_findPairs_140 ?_
                    refine gp_9_brokenMany (pc := 141) kf_X9_218 dX9_findPairs_141 (fun s19 => ?_)
                    refine g_iinc (pc := 144) (j := 5) (1) (lf := fun x9 => [(4, .int x9), (3, .int (0 : Int32)), (5, .int r2), (0, .ref (q 0)), (1, .int s), (2, .int y1)]) dX9_findPairs_144 rfl (by decide) (Nat.le_of_ble_eq_true rfl) (fun _ => rfl) (fun x9 => ?_)
                    refine g_goto (pc := 147) 36 dX9_findPairs_147 (by decide) ?_
                    exact g_sub [3, 4, 5, 1, 0] rfl (ih36 ((0 : Int32), x9, s19))
                · refine g_aload_n (pc := 100) 2 dX9_findPairs_100 rfl rfl ?_
                  refine gf_9_brokenMany (pc := 101) kf_X9_218 dX9_findPairs_101 ?_
                  refine g_if_ne (pc := 104) 118 dX9_findPairs_104 (by decide) ?_ ?_
                  · refine g_aload_n (pc := 118) 2 dX9_findPairs_118 rfl rfl ?_
                    refine gf_9_brokenFirst (pc := 119) kf_X9_221 dX9_findPairs_119 ?_
                    refine gp_9_brokenFirst (pc := 122) kf_X9_221 dX9_findPairs_122 (fun s20 => ?_)
                    refine g_aload_n (pc := 125) 2 dX9_findPairs_125 rfl rfl ?_
                    refine g_dup (pc := 126) dX9_findPairs_126 rfl ?_
                    refine gf_9_brokenMany (pc := 127) kf_X9_218 dX9_findPairs_127 ?_
                    refine g_iload (pc := 130) 1 dX9_findPairs_130 rfl ?_
                    refine g_if_eq (pc := 132) 139 dX9_findPairs_132 (by decide) ?_ ?_
                    · refine g_iconst (pc := 139) (1) dX9_findPairs_139 (by decide) ?_
                      refine g_iadd (pc := 140) dX9_findPairs_140 ?_
                      refine gp_9_brokenMany (pc := 141) kf_X9_218 dX9_findPairs_141 (fun s21 => ?_)
                      refine g_iinc (pc := 144) (j := 5) (1) (lf := fun x10 => [(4, .int x10), (3, .int (0 : Int32)), (5, .int r2), (0, .ref (q 0)), (1, .int s), (2, .int y1)]) dX9_findPairs_144 rfl (by decide) (Nat.le_of_ble_eq_true rfl) (fun _ => rfl) (fun x10 => ?_)
                      refine g_goto (pc := 147) 36 dX9_findPairs_147 (by decide) ?_
                      exact g_sub [3, 4, 5, 1, 0] rfl (ih36 ((0 : Int32), x10, s21))
                    · refine g_iconst (pc := 135) (0) dX9_findPairs_135 (by decide) ?_
                      refine g_goto (pc := 136) 140 dX9_findPairs_136 (by decide) ?_
                      refine g_iadd (pc := 140) dX9_findPairs_140 ?_
                      refine gp_9_brokenMany (pc := 141) kf_X9_218 dX9_findPairs_141 (fun s22 => ?_)
                      refine g_iinc (pc := 144) (j := 5) (1) (lf := fun x11 => [(4, .int x11), (3, .int (0 : Int32)), (5, .int r2), (0, .ref (q 0)), (1, .int s), (2, .int y1)]) dX9_findPairs_144 rfl (by decide) (Nat.le_of_ble_eq_true rfl) (fun _ => rfl) (fun x11 => ?_)
                      refine g_goto (pc := 147) 36 dX9_findPairs_147 (by decide) ?_
                      exact g_sub [3, 4, 5, 1, 0] rfl (ih36 ((0 : Int32), x11, s22))
                  · refine g_sipush (pc := 107) (256) dX9_findPairs_107 (by decide) ?_
                    refine g_iload_n (pc := 110) 4 dX9_findPairs_110 rfl rfl ?_
                    refine g_imul (pc := 111) dX9_findPairs_111 ?_
                    refine g_iload (pc := 112) 5 dX9_findPairs_112 rfl ?_
                    refine g_iadd (pc := 114) dX9_findPairs_114 ?_
                    refine g_goto (pc := 115) 122 dX9_findPairs_115 (by decide) ?_
                    refine gp_9_brokenFirst (pc := 122) kf_X9_221 dX9_findPairs_122 (fun s23 => ?_)
                    refine g_aload_n (pc := 125) 2 dX9_findPairs_125 rfl rfl ?_
                    refine g_dup (pc := 126) dX9_findPairs_126 rfl ?_
                    refine gf_9_brokenMany (pc := 127) kf_X9_218 dX9_findPairs_127 ?_
                    refine g_iload (pc := 130) 1 dX9_findPairs_130 rfl ?_
                    refine g_if_eq (pc := 132) 139 dX9_findPairs_132 (by decide) ?_ ?_
                    · refine g_iconst (pc := 139) (1) dX9_findPairs_139 (by decide) ?_
                      refine g_iadd (pc := 140) dX9_findPairs_140 ?_
                      refine gp_9_brokenMany (pc := 141) kf_X9_218 dX9_findPairs_141 (fun s24 => ?_)
                      refine g_iinc (pc := 144) (j := 5) (1) (lf := fun x12 => [(4, .int x12), (3, .int (0 : Int32)), (5, .int r2), (0, .ref (q 0)), (1, .int s), (2, .int y1)]) dX9_findPairs_144 rfl (by decide) (Nat.le_of_ble_eq_true rfl) (fun _ => rfl) (fun x12 => ?_)
                      refine g_goto (pc := 147) 36 dX9_findPairs_147 (by decide) ?_
                      exact g_sub [3, 4, 5, 1, 0] rfl (ih36 ((0 : Int32), x12, s24))
                    · refine g_iconst (pc := 135) (0) dX9_findPairs_135 (by decide) ?_
                      refine g_goto (pc := 136) 140 dX9_findPairs_136 (by decide) ?_
                      refine g_iadd (pc := 140) dX9_findPairs_140 ?_
                      refine gp_9_brokenMany (pc := 141) kf_X9_218 dX9_findPairs_141 (fun s25 => ?_)
                      refine g_iinc (pc := 144) (j := 5) (1) (lf := fun x13 => [(4, .int x13), (3, .int (0 : Int32)), (5, .int r2), (0, .ref (q 0)), (1, .int s), (2, .int y1)]) dX9_findPairs_144 rfl (by decide) (Nat.le_of_ble_eq_true rfl) (fun _ => rfl) (fun x13 => ?_)
                      refine g_goto (pc := 147) 36 dX9_findPairs_147 (by decide) ?_
                      exact g_sub [3, 4, 5, 1, 0] rfl (ih36 ((0 : Int32), x13, s25))
              · refine g_iconst (pc := 88) (1) dX9_findPairs_88 (by decide) ?_
                refine g_goto (pc := 89) 93 dX9_findPairs_89 (by decide) ?_
                refine g_istore_n (pc := 93) (lv' := [(3, .int (1 : Int32)), (5, .int r2), (0, .ref (q 0)), (1, .int s), (2, .int y1), (4, .int y3)]) dX9_findPairs_93 rfl (Nat.le_of_ble_eq_true rfl) rfl ?_
                refine g_aload_n (pc := 94) 2 dX9_findPairs_94 rfl rfl ?_
                refine g_iload (pc := 95) 1 dX9_findPairs_95 rfl ?_
                refine g_if_ne (pc := 97) 118 dX9_findPairs_97 (by decide) ?_ ?_
                · refine g_aload_n (pc := 118) 2 dX9_findPairs_118 rfl rfl ?_
                  refine gf_9_brokenFirst (pc := 119) kf_X9_221 dX9_findPairs_119 ?_
                  refine gp_9_brokenFirst (pc := 122) kf_X9_221 dX9_findPairs_122 (fun s26 => ?_)
                  refine g_aload_n (pc := 125) 2 dX9_findPairs_125 rfl rfl ?_
                  refine g_dup (pc := 126) dX9_findPairs_126 rfl ?_
                  refine gf_9_brokenMany (pc := 127) kf_X9_218 dX9_findPairs_127 ?_
                  refine g_iload (pc := 130) 1 dX9_findPairs_130 rfl ?_
                  refine g_if_eq (pc := 132) 139 dX9_findPairs_132 (by decide) ?_ ?_
                  · refine g_iconst (pc := 139) (1) dX9_findPairs_139 (by decide) ?_
                    refine g_iadd (pc := 140) dX9_findPairs_140 ?_
                    refine gp_9_brokenMany (pc := 141) kf_X9_218 dX9_findPairs_141 (fun s27 => ?_)
                    refine g_iinc (pc := 144) (j := 5) (1) (lf := fun x14 => [(4, .int x14), (3, .int (1 : Int32)), (5, .int r2), (0, .ref (q 0)), (1, .int s), (2, .int y1)]) dX9_findPairs_144 rfl (by decide) (Nat.le_of_ble_eq_true rfl) (fun _ => rfl) (fun x14 => ?_)
                    refine g_goto (pc := 147) 36 dX9_findPairs_147 (by decide) ?_
                    exact g_sub [3, 4, 5, 1, 0] rfl (ih36 ((1 : Int32), x14, s27))
                  · refine g_iconst (pc := 135) (0) dX9_findPairs_135 (by decide) ?_
                    refine g_goto (pc := 136) 140 dX9_findPairs_136 (by decide) ?_
                    refine g_iadd (pc := 140) dX9_findPairs_140 ?_
                    refine gp_9_brokenMany (pc := 141) kf_X9_218 dX9_findPairs_141 (fun s28 => ?_)
                    refine g_iinc (pc := 144) (j := 5) (1) (lf := fun x15 => [(4, .int x15), (3, .int (1 : Int32)), (5, .int r2), (0, .ref (q 0)), (1, .int s), (2, .int y1)]) dX9_findPairs_144 rfl (by decide) (Nat.le_of_ble_eq_true rfl) (fun _ => rfl) (fun x15 => ?_)
                    refine g_goto (pc := 147) 36 dX9_findPairs_147 (by decide) ?_
                    exact g_sub [3, 4, 5, 1, 0] rfl (ih36 ((1 : Int32), x15, s28))
                · refine g_aload_n (pc := 100) 2 dX9_findPairs_100 rfl rfl ?_
                  refine gf_9_brokenMany (pc := 101) kf_X9_218 dX9_findPairs_101 ?_
                  refine g_if_ne (pc := 104) 118 dX9_findPairs_104 (by decide) ?_ ?_
                  · refine g_aload_n (pc := 118) 2 dX9_findPairs_118 rfl rfl ?_
                    refine gf_9_brokenFirst (pc := 119) kf_X9_221 dX9_findPairs_119 ?_
                    refine gp_9_brokenFirst (pc := 122) kf_X9_221 dX9_findPairs_122 (fun s29 => ?_)
                    refine g_aload_n (pc := 125) 2 dX9_findPairs_125 rfl rfl ?_
                    refine g_dup (pc := 126) dX9_findPairs_126 rfl ?_
                    refine gf_9_brokenMany (pc := 127) kf_X9_218 dX9_findPairs_127 ?_
                    refine g_iload (pc := 130) 1 dX9_findPairs_130 rfl ?_
                    refine g_if_eq (pc := 132) 139 dX9_findPairs_132 (by decide) ?_ ?_
                    · refine g_iconst (pc := 139) (1) dX9_findPairs_139 (by decide) ?_
                      refine g_iadd (pc := 140) dX9_findPairs_140 ?_
                      refine gp_9_brokenMany (pc := 141) kf_X9_218 dX9_findPairs_141 (fun s30 => ?_)
                      refine g_iinc (pc := 144) (j := 5) (1) (lf := fun x16 => [(4, .int x16), (3, .int (1 : Int32)), (5, .int r2), (0, .ref (q 0)), (1, .int s), (2, .int y1)]) dX9_findPairs_144 rfl (by decide) (Nat.le_of_ble_eq_true rfl) (fun _ => rfl) (fun x16 => ?_)
                      refine g_goto (pc := 147) 36 dX9_findPairs_147 (by decide) ?_
                      exact g_sub [3, 4, 5, 1, 0] rfl (ih36 ((1 : Int32), x16, s30))
                    · refine g_iconst (pc := 135) (0) dX9_findPairs_135 (by decide) ?_
                      refine g_goto (pc := 136) 140 dX9_findPairs_136 (by decide) ?_
                      refine g_iadd (pc := 140) dX9_findPairs_140 ?_
                      refine gp_9_brokenMany (pc := 141) kf_X9_218 dX9_findPairs_141 (fun s31 => ?_)
                      refine g_iinc (pc := 144) (j := 5) (1) (lf := fun x17 => [(4, .int x17), (3, .int (1 : Int32)), (5, .int r2), (0, .ref (q 0)), (1, .int s), (2, .int y1)]) dX9_findPairs_144 rfl (by decide) (Nat.le_of_ble_eq_true rfl) (fun _ => rfl) (fun x17 => ?_)
                      refine g_goto (pc := 147) 36 dX9_findPairs_147 (by decide) ?_
                      exact g_sub [3, 4, 5, 1, 0] rfl (ih36 ((1 : Int32), x17, s31))
                  · refine g_sipush (pc := 107) (256) dX9_findPairs_107 (by decide) ?_
                    refine g_iload_n (pc := 110) 4 dX9_findPairs_110 rfl rfl ?_
                    refine g_imul (pc := 111) dX9_findPairs_111 ?_
                    refine g_iload (pc := 112) 5 dX9_findPairs_112 rfl ?_
                    refine g_iadd (pc := 114) dX9_findPairs_114 ?_
                    refine g_goto (pc := 115) 122 dX9_findPairs_115 (by decide) ?_
                    refine gp_9_brokenFirst (pc := 122) kf_X9_221 dX9_findPairs_122 (fun s32 => ?_)
                    refine g_aload_n (pc := 125) 2 dX9_findPairs_125 rfl rfl ?_
                    refine g_dup (pc := 126) dX9_findPairs_126 rfl ?_
                    refine gf_9_brokenMany (pc := 127) kf_X9_218 dX9_findPairs_127 ?_
                    refine g_iload (pc := 130) 1 dX9_findPairs_130 rfl ?_
                    refine g_if_eq (pc := 132) 139 dX9_findPairs_132 (by decide) ?_ ?_
                    · refine g_iconst (pc := 139) (1) dX9_findPairs_139 (by decide) ?_
                      refine g_iadd (pc := 140) dX9_findPairs_140 ?_
                      refine gp_9_brokenMany (pc := 141) kf_X9_218 dX9_findPairs_141 (fun s33 => ?_)
                      refine g_iinc (pc := 144) (j := 5) (1) (lf := fun x18 => [(4, .int x18), (3, .int (1 : Int32)), (5, .int r2), (0, .ref (q 0)), (1, .int s), (2, .int y1)]) dX9_findPairs_144 rfl (by decide) (Nat.le_of_ble_eq_true rfl) (fun _ => rfl) (fun x18 => ?_)
                      refine g_goto (pc := 147) 36 dX9_findPairs_147 (by decide) ?_
                      exact g_sub [3, 4, 5, 1, 0] rfl (ih36 ((1 : Int32), x18, s33))
                    · refine g_iconst (pc := 135) (0) dX9_findPairs_135 (by decide) ?_
                      refine g_goto (pc := 136) 140 dX9_findPairs_136 (by decide) ?_
                      refine g_iadd (pc := 140) dX9_findPairs_140 ?_
                      refine gp_9_brokenMany (pc := 141) kf_X9_218 dX9_findPairs_141 (fun s34 => ?_)
                      refine g_iinc (pc := 144) (j := 5) (1) (lf := fun x19 => [(4, .int x19), (3, .int (1 : Int32)), (5, .int r2), (0, .ref (q 0)), (1, .int s), (2, .int y1)]) dX9_findPairs_144 rfl (by decide) (Nat.le_of_ble_eq_true rfl) (fun _ => rfl) (fun x19 => ?_)
                      refine g_goto (pc := 147) 36 dX9_findPairs_147 (by decide) ?_
                      exact g_sub [3, 4, 5, 1, 0] rfl (ih36 ((1 : Int32), x19, s34))
