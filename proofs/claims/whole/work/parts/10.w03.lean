def b_X5_firstFault_6 (sa : Nat) (σ : St) : (Int32 × Int32 × Int32) → Option ((Int32 × Int32 × Int32) ⊕ ((Int32 × Int32) ⊕ (Int32))) := un fun y1 => un fun y2 y3 => (if (σ.1 sa 1) ≤ y3 then some (.inr (.inl (y1, y2))) else chk (inb y3 40) ((f_X5_dueBehind (σ.1 (sa + 1) y3.toNatClampNeg) y1 y2).bind fun r1 => (if r1 = (4 : Int32) then some (.inr (.inr y3)) else (if y2 = (0 : Int32) then chk (inb y3 40) ((if (σ.1 (sa + 1) y3.toNatClampNeg) = (58 : Int32) then nm (y3 + (1 : Int32)) fun x3 => some (.inl (r1, (1 : Int32), x3)) else nm (y3 + (1 : Int32)) fun x2 => some (.inl (r1, (0 : Int32), x2)))) else nm (y3 + (1 : Int32)) fun x1 => some (.inl (r1, (1 : Int32), x1))))))
def f_X5_firstFault (sa : Nat) (σ : St) : Option (Int32) := (wh FU (b_X5_firstFault_6 sa σ) ((0 : Int32), (0 : Int32), (0 : Int32))).bind (Sum.elim (un fun z1 z2 => (if z2 = (0 : Int32) then some (σ.1 sa 1) else (if z1 = (3 : Int32) then some (-6 : Int32) else some (σ.1 sa 1)))) (fun z => some z))
abbrev rm_X5_firstFault : Room := { frames := 2, cells := 0, slots := 0, locals := 42 }
set_option maxHeartbeats 4000000 in
set_option maxRecDepth 20000 in
theorem m_X5_firstFault (l : Launch) (D : va_G) (cy : Cy) (q : Nat → Nat) (σ : St) (sa : Nat) (hsa : isS sa) : ∀ res, f_X5_firstFault sa σ = some res → MetX (vX D cy q) l yX5_firstFault cX5_firstFault 4 (some .int) rm_X5_firstFault [.ref (q sa)] σ (some (.int res), σ) := by
  let fin_ : Int32 → Option Value × St := fun r => (some (.int r), σ)
  have hro : ∀ (z : Int32) (res : Int32), some z = some res → fin_ res = fin_ z := fun z res h => by cases h; rfl
  refine MetX.of1 (fin := fin_) (lv := [(0, .ref (q sa))]) (by decide) (Nat.le_of_ble_eq_true rfl) rfl ?_
  unfold f_X5_firstFault
  refine g_iconst (pc := 0) (0) dX5_firstFault_0 (by decide) ?_
  refine g_istore_n (pc := 1) (lv' := [(1, .int (0 : Int32)), (0, .ref (q sa))]) dX5_firstFault_1 rfl (Nat.le_of_ble_eq_true rfl) rfl ?_
  refine g_iconst (pc := 2) (0) dX5_firstFault_2 (by decide) ?_
  refine g_istore_n (pc := 3) (lv' := [(2, .int (0 : Int32)), (1, .int (0 : Int32)), (0, .ref (q sa))]) dX5_firstFault_3 rfl (Nat.le_of_ble_eq_true rfl) rfl ?_
  refine g_iconst (pc := 4) (0) dX5_firstFault_4 (by decide) ?_
  refine g_istore_n (pc := 5) (lv' := [(3, .int (0 : Int32)), (2, .int (0 : Int32)), (1, .int (0 : Int32)), (0, .ref (q sa))]) dX5_firstFault_5 rfl (Nat.le_of_ble_eq_true rfl) rfl ?_
  refine g_sub [3, 2, 1, 0] rfl ?_
  refine g_whr (pc := 6) (s0 := ((0 : Int32), (0 : Int32), (0 : Int32))) fin_ (fun (w_ : Int32 × Int32 × Int32) => σ) (fun (w_ : Int32 × Int32 × Int32) => [(0, .ref (q sa)), (1, .int w_.1), (2, .int w_.2.1), (3, .int w_.2.2)]) (fun (w_ : Int32 × Int32) => σ) (fun (w_ : Int32 × Int32) => [(0, .ref (q sa)), (1, .int w_.1), (2, .int w_.2)]) 60 (fun z => z) (fun _ => rfl) hro ?_ ?_
  · rintro ⟨z1, z2⟩
    try dsimp only [un, Sum.elim_inl]
    refine g_iload_n (pc := 60) 2 dX5_firstFault_60 rfl rfl ?_
    refine g_if_eq (pc := 61) 74 dX5_firstFault_61 (by decide) ?_ ?_
    · refine g_aload_n (pc := 74) 0 dX5_firstFault_74 rfl rfl ?_
      refine gf_5_size (pc := 75) hsa kf_X5_15 dX5_firstFault_75 ?_
      exact g_iret (pc := 78) (hro _) rfl dX5_firstFault_78
    · refine g_iload_n (pc := 64) 1 dX5_firstFault_64 rfl rfl ?_
      refine g_iconst (pc := 65) (3) dX5_firstFault_65 (by decide) ?_
      refine g_icmp_ne (pc := 66) 74 dX5_firstFault_66 (by decide) ?_ ?_
      · refine g_aload_n (pc := 74) 0 dX5_firstFault_74 rfl rfl ?_
        refine gf_5_size (pc := 75) hsa kf_X5_15 dX5_firstFault_75 ?_
        exact g_iret (pc := 78) (hro _) rfl dX5_firstFault_78
      · refine g_bipush (pc := 69) (-6) dX5_firstFault_69 (by decide) ?_
        refine g_goto (pc := 71) 78 dX5_firstFault_71 (by decide) ?_
        exact g_iret (pc := 78) (hro _) rfl dX5_firstFault_78
  · intro K6 hr6 hx6 ih6
    rintro ⟨y1, y2, y3⟩
    try dsimp only [b_X5_firstFault_6, un]
    refine g_iload_n (pc := 6) 3 dX5_firstFault_6 rfl rfl ?_
    refine g_aload_n (pc := 7) 0 dX5_firstFault_7 rfl rfl ?_
    refine gf_5_size (pc := 8) hsa kf_X5_15 dX5_firstFault_8 ?_
    refine g_icmp_ge (pc := 11) 60 dX5_firstFault_11 (by decide) ?_ ?_
    · exact g_sub [0, 1, 2] rfl (hx6 (y1, y2))
    · refine g_aload_n (pc := 14) 0 dX5_firstFault_14 rfl rfl ?_
      refine gf_5_signs (pc := 15) hsa kf_X5_9 dX5_firstFault_15 ?_
      refine g_iload_n (pc := 18) 3 dX5_firstFault_18 rfl rfl ?_
      refine a_ild (pc := 19) (aX_5_signs hsa) dX5_firstFault_19 ?_
      refine g_iload_n (pc := 20) 1 dX5_firstFault_20 rfl rfl ?_
      refine g_iload_n (pc := 21) 2 dX5_firstFault_21 rfl rfl ?_
      refine gS_i (pc := 22) [.int (σ.1 (sa + 1) y3.toNatClampNeg), .int y1, .int y2] [] (m_X5_dueBehind l D cy q σ (σ.1 (sa + 1) y3.toNatClampNeg) y1 y2) cw_X5_dueBehind km_X5_26 ⟨rfl, rfl, by decide, by decide⟩ dX5_firstFault_22 rfl rfl (Nat.le_of_ble_eq_true rfl) (fun r1 => ?_)
      refine g_istore_n (pc := 25) (lv' := [(1, .int r1), (0, .ref (q sa)), (2, .int y2), (3, .int y3)]) dX5_firstFault_25 rfl (Nat.le_of_ble_eq_true rfl) rfl ?_
      refine g_iload_n (pc := 26) 0 dX5_firstFault_26 rfl rfl ?_
      refine g_iconst (pc := 27) (4) dX5_firstFault_27 (by decide) ?_
      refine g_icmp_ne (pc := 28) 33 dX5_firstFault_28 (by decide) ?_ ?_
      · refine g_iload_n (pc := 33) 2 dX5_firstFault_33 rfl rfl ?_
        refine g_if_ne (pc := 34) 48 dX5_firstFault_34 (by decide) ?_ ?_
        · refine g_iconst (pc := 48) (1) dX5_firstFault_48 (by decide) ?_
          refine g_goto (pc := 49) 53 dX5_firstFault_49 (by decide) ?_
          refine g_istore_n (pc := 53) (lv' := [(2, .int (1 : Int32)), (1, .int r1), (0, .ref (q sa)), (3, .int y3)]) dX5_firstFault_53 rfl (Nat.le_of_ble_eq_true rfl) rfl ?_
          refine g_iinc (pc := 54) (j := 3) (1) (lf := fun x1 => [(3, .int x1), (2, .int (1 : Int32)), (1, .int r1), (0, .ref (q sa))]) dX5_firstFault_54 rfl (by decide) (Nat.le_of_ble_eq_true rfl) (fun _ => rfl) (fun x1 => ?_)
          refine g_goto (pc := 57) 6 dX5_firstFault_57 (by decide) ?_
          exact g_sub [3, 2, 1, 0] rfl (ih6 (r1, (1 : Int32), x1))
        · refine g_aload_n (pc := 37) 1 dX5_firstFault_37 rfl rfl ?_
          refine gf_5_signs (pc := 38) hsa kf_X5_9 dX5_firstFault_38 ?_
          refine g_iload_n (pc := 41) 3 dX5_firstFault_41 rfl rfl ?_
          refine a_ild (pc := 42) (aX_5_signs hsa) dX5_firstFault_42 ?_
          refine g_bipush (pc := 43) (58) dX5_firstFault_43 (by decide) ?_
          refine g_icmp_ne (pc := 45) 52 dX5_firstFault_45 (by decide) ?_ ?_
          · refine g_iconst (pc := 52) (0) dX5_firstFault_52 (by decide) ?_
            refine g_istore_n (pc := 53) (lv' := [(2, .int (0 : Int32)), (1, .int r1), (0, .ref (q sa)), (3, .int y3)]) dX5_firstFault_53 rfl (Nat.le_of_ble_eq_true rfl) rfl ?_
            refine g_iinc (pc := 54) (j := 3) (1) (lf := fun x2 => [(3, .int x2), (2, .int (0 : Int32)), (1, .int r1), (0, .ref (q sa))]) dX5_firstFault_54 rfl (by decide) (Nat.le_of_ble_eq_true rfl) (fun _ => rfl) (fun x2 => ?_)
            refine g_goto (pc := 57) 6 dX5_firstFault_57 (by decide) ?_
            exact g_sub [3, 2, 1, 0] rfl (ih6 (r1, (0 : Int32), x2))
          · refine g_iconst (pc := 48) (1) dX5_firstFault_48 (by decide) ?_
            refine g_goto (pc := 49) 53 dX5_firstFault_49 (by decide) ?_
            refine g_istore_n (pc := 53) (lv' := [(2, .int (1 : Int32)), (1, .int r1), (0, .ref (q sa)), (3, .int y3)]) dX5_firstFault_53 rfl (Nat.le_of_ble_eq_true rfl) rfl ?_
            refine g_iinc (pc := 54) (j := 3) (1) (lf := fun x3 => [(3, .int x3), (2, .int (1 : Int32)), (1, .int r1), (0, .ref (q sa))]) dX5_firstFault_54 rfl (by decide) (Nat.le_of_ble_eq_true rfl) (fun _ => rfl) (fun x3 => ?_)
            refine g_goto (pc := 57) 6 dX5_firstFault_57 (by decide) ?_
            exact g_sub [3, 2, 1, 0] rfl (ih6 (r1, (1 : Int32), x3))
      · refine g_iload_n (pc := 31) 3 dX5_firstFault_31 rfl rfl ?_
        exact g_iret (pc := 32) (hr6 _) rfl dX5_firstFault_32
def b_X5_take_35 (sa : Nat) : (Int32 × St) → Option ((Int32 × St) ⊕ (St)) := un fun y1 s5 => (if (s5.1 sa 1) ≤ y1 then some (.inr s5) else chk (inb y1 40) ((if (s5.1 (sa + 1) y1.toNatClampNeg) = (58 : Int32) then nm (stI s5 sa 3 y1) fun s8 => chk (inb y1 40) ((f_X5_alikePart (s8.1 (sa + 1) y1.toNatClampNeg)).bind fun r2 => nm (stL s8 sa 2 ((s8.2 sa 2) ||| r2)) fun s9 => nm (y1 + (1 : Int32)) fun x2 => some (.inl (x2, s9))) else nm (stI s5 sa 3 (s5.1 sa 3)) fun s6 => chk (inb y1 40) ((f_X5_alikePart (s6.1 (sa + 1) y1.toNatClampNeg)).bind fun r1 => nm (stL s6 sa 2 ((s6.2 sa 2) ||| r1)) fun s7 => nm (y1 + (1 : Int32)) fun x1 => some (.inl (x1, s7))))))
def f_X5_take (sa : Nat) (other : Nat) (σ : St) : Option (St) := nm (stR σ (sa + 1) (va_cpy (σ.1 (other + 1)) (σ.1 (sa + 1)) 0 0 40)) fun s1 => nm (stI s1 sa 1 (s1.1 other 1)) fun s2 => nm (stI s2 sa 3 (0 : Int32)) fun s3 => nm (stL s3 sa 2 (0 : Int64)) fun s4 => (wh FU (b_X5_take_35 sa) ((0 : Int32), s4)).bind (fun s10 => some s10)
abbrev rm_X5_take : Room := { frames := 1, cells := 0, slots := 0, locals := 48 }
set_option maxHeartbeats 4000000 in
set_option maxRecDepth 20000 in
theorem m_X5_take (l : Launch) (D : va_G) (cy : Cy) (q : Nat → Nat) (σ : St) (sa : Nat) (other : Nat) (hsa : isS sa) (hother : isS other) : ∀ res, f_X5_take sa other σ = some res → MetX (vX D cy q) l yX5_take cX5_take 3 none rm_X5_take [.ref (q sa), .ref (q other)] σ (none, res) := by
  let fin_ : St → Option Value × St := fun r => (none, r)
  have hro : ∀ (z : St) (res : St), some z = some res → fin_ res = fin_ z := fun z res h => by cases h; rfl
  refine MetX.of1 (fin := fin_) (lv := [(0, .ref (q sa)), (1, .ref (q other))]) (by decide) (Nat.le_of_ble_eq_true rfl) rfl ?_
  unfold f_X5_take
  refine g_aload_n (pc := 0) 1 dX5_take_0 rfl rfl ?_
  refine gf_5_signs (pc := 1) hother kf_X5_9 dX5_take_1 ?_
  refine g_iconst (pc := 4) (0) dX5_take_4 (by decide) ?_
  refine g_aload_n (pc := 5) 0 dX5_take_5 rfl rfl ?_
  refine gf_5_signs (pc := 6) hsa kf_X5_9 dX5_take_6 ?_
  refine g_iconst (pc := 9) (0) dX5_take_9 (by decide) ?_
  refine g_bipush (pc := 10) (40) dX5_take_10 (by decide) ?_
  refine g_acopy (pc := 12) (aX_5_signs hother) (aX_5_signs hsa) km_cpy ⟨by decide, Nat.le_of_ble_eq_true rfl⟩ dX5_take_12 (fun s1 => ?_)
  refine g_aload_n (pc := 15) 0 dX5_take_15 rfl rfl ?_
  refine g_aload_n (pc := 16) 1 dX5_take_16 rfl rfl ?_
  refine gf_5_size (pc := 17) hother kf_X5_15 dX5_take_17 ?_
  refine gp_5_size (pc := 20) hsa kf_X5_15 dX5_take_20 (fun s2 => ?_)
  refine g_aload_n (pc := 23) 0 dX5_take_23 rfl rfl ?_
  refine g_iconst (pc := 24) (0) dX5_take_24 (by decide) ?_
  refine gp_5_colon (pc := 25) hsa kf_X5_23 dX5_take_25 (fun s3 => ?_)
  refine g_aload_n (pc := 28) 0 dX5_take_28 rfl rfl ?_
  refine g_lconst (pc := 29) (0) dX5_take_29 (by decide) ?_
  refine gp_5_alike (pc := 30) hsa kf_X5_19 dX5_take_30 (fun s4 => ?_)
  refine g_iconst (pc := 33) (0) dX5_take_33 (by decide) ?_
  refine g_istore_n (pc := 34) (lv' := [(2, .int (0 : Int32)), (0, .ref (q sa)), (1, .ref (q other))]) dX5_take_34 rfl (Nat.le_of_ble_eq_true rfl) rfl ?_
  refine g_sub [1, 0] rfl ?_
  refine g_wh2 (pc := 35) (s0 := ((0 : Int32), s4)) (fun (w_ : Int32 × St) => w_.2) (fun (w_ : Int32 × St) => [(0, .ref (q sa)), (2, .int w_.1)]) (fun (w_ : St) => w_) (fun (w_ : St) => []) 90 ?_ ?_
  · rintro s10
    try dsimp only [un, Sum.elim_inl]
    exact g_vret (pc := 90) (hro _) rfl dX5_take_90
  · intro K35 hx35 ih35
    rintro ⟨y1, s5⟩
    try dsimp only [b_X5_take_35, un]
    refine g_iload_n (pc := 35) 1 dX5_take_35 rfl rfl ?_
    refine g_aload_n (pc := 36) 0 dX5_take_36 rfl rfl ?_
    refine gf_5_size (pc := 37) hsa kf_X5_15 dX5_take_37 ?_
    refine g_icmp_ge (pc := 40) 90 dX5_take_40 (by decide) ?_ ?_
    · exact g_sub [] rfl (hx35 s5)
    · refine g_aload_n (pc := 43) 0 dX5_take_43 rfl rfl ?_
      refine g_aload_n (pc := 44) 0 dX5_take_44 rfl rfl ?_
      refine gf_5_signs (pc := 45) hsa kf_X5_9 dX5_take_45 ?_
      refine g_iload_n (pc := 48) 1 dX5_take_48 rfl rfl ?_
      refine a_ild (pc := 49) (aX_5_signs hsa) dX5_take_49 ?_
      refine g_bipush (pc := 50) (58) dX5_take_50 (by decide) ?_
      refine g_icmp_ne (pc := 52) 59 dX5_take_52 (by decide) ?_ ?_
      · refine g_aload_n (pc := 59) 0 dX5_take_59 rfl rfl ?_
        refine gf_5_colon (pc := 60) hsa kf_X5_23 dX5_take_60 ?_
        refine gp_5_colon (pc := 63) hsa kf_X5_23 dX5_take_63 (fun s6 => ?_)
        refine g_aload_n (pc := 66) 0 dX5_take_66 rfl rfl ?_
        refine g_dup (pc := 67) dX5_take_67 rfl ?_
        refine gf_5_alike (pc := 68) hsa kf_X5_19 dX5_take_68 ?_
        refine g_aload_n (pc := 71) 0 dX5_take_71 rfl rfl ?_
        refine gf_5_signs (pc := 72) hsa kf_X5_9 dX5_take_72 ?_
        refine g_iload_n (pc := 75) 1 dX5_take_75 rfl rfl ?_
        refine a_ild (pc := 76) (aX_5_signs hsa) dX5_take_76 ?_
        refine gS_l (pc := 77) [.int (s6.1 (sa + 1) y1.toNatClampNeg)] [.long (s6.2 sa 2), .ref (q sa)] (m_X5_alikePart l D cy q s6 (s6.1 (sa + 1) y1.toNatClampNeg)) cw_X5_alikePart km_X5_34 ⟨rfl, rfl, by decide, by decide⟩ dX5_take_77 rfl rfl (Nat.le_of_ble_eq_true rfl) (fun r1 => ?_)
        refine g_lor (pc := 80) dX5_take_80 ?_
        refine gp_5_alike (pc := 81) hsa kf_X5_19 dX5_take_81 (fun s7 => ?_)
        refine g_iinc (pc := 84) (j := 1) (1) (lf := fun x1 => [(2, .int x1), (0, .ref (q sa))]) dX5_take_84 rfl (by decide) (Nat.le_of_ble_eq_true rfl) (fun _ => rfl) (fun x1 => ?_)
        refine g_goto (pc := 87) 35 dX5_take_87 (by decide) ?_
        exact g_sub [1, 0] rfl (ih35 (x1, s7))
      · refine g_iload_n (pc := 55) 1 dX5_take_55 rfl rfl ?_
        refine g_goto (pc := 56) 63 dX5_take_56 (by decide) ?_
        refine gp_5_colon (pc := 63) hsa kf_X5_23 dX5_take_63 (fun s8 => ?_)
        refine g_aload_n (pc := 66) 0 dX5_take_66 rfl rfl ?_
        refine g_dup (pc := 67) dX5_take_67 rfl ?_
        refine gf_5_alike (pc := 68) hsa kf_X5_19 dX5_take_68 ?_
        refine g_aload_n (pc := 71) 0 dX5_take_71 rfl rfl ?_
        refine gf_5_signs (pc := 72) hsa kf_X5_9 dX5_take_72 ?_
        refine g_iload_n (pc := 75) 1 dX5_take_75 rfl rfl ?_
        refine a_ild (pc := 76) (aX_5_signs hsa) dX5_take_76 ?_
        refine gS_l (pc := 77) [.int (s8.1 (sa + 1) y1.toNatClampNeg)] [.long (s8.2 sa 2), .ref (q sa)] (m_X5_alikePart l D cy q s8 (s8.1 (sa + 1) y1.toNatClampNeg)) cw_X5_alikePart km_X5_34 ⟨rfl, rfl, by decide, by decide⟩ dX5_take_77 rfl rfl (Nat.le_of_ble_eq_true rfl) (fun r2 => ?_)
        refine g_lor (pc := 80) dX5_take_80 ?_
        refine gp_5_alike (pc := 81) hsa kf_X5_19 dX5_take_81 (fun s9 => ?_)
        refine g_iinc (pc := 84) (j := 1) (1) (lf := fun x2 => [(2, .int x2), (0, .ref (q sa))]) dX5_take_84 rfl (by decide) (Nat.le_of_ble_eq_true rfl) (fun _ => rfl) (fun x2 => ?_)
        refine g_goto (pc := 87) 35 dX5_take_87 (by decide) ?_
        exact g_sub [1, 0] rfl (ih35 (x2, s9))
def f_J6_bitCount_0f7a4 (p0 : Int32) : Option (Int32) := nm (p0 - ((p0.toUInt32 >>> ((1 : Int32).toUInt32 &&& Int32.toUInt32 31)).toInt32 &&& (1431655765 : Int32))) fun x1 => nm ((x1 &&& (858993459 : Int32)) + ((x1.toUInt32 >>> ((2 : Int32).toUInt32 &&& Int32.toUInt32 31)).toInt32 &&& (858993459 : Int32))) fun x2 => nm ((x2 + (x2.toUInt32 >>> ((4 : Int32).toUInt32 &&& Int32.toUInt32 31)).toInt32) &&& (252645135 : Int32)) fun x3 => nm (x3 + (x3.toUInt32 >>> ((8 : Int32).toUInt32 &&& Int32.toUInt32 31)).toInt32) fun x4 => nm (x4 + (x4.toUInt32 >>> ((16 : Int32).toUInt32 &&& Int32.toUInt32 31)).toInt32) fun x5 => some (x5 &&& (63 : Int32))
abbrev rm_J6_bitCount_0f7a4 : Room := { frames := 0, cells := 0, slots := 0, locals := 0 }
set_option maxHeartbeats 4000000 in
set_option maxRecDepth 20000 in
theorem m_J6_bitCount_0f7a4 (l : Launch) (D : va_G) (cy : Cy) (q : Nat → Nat) (σ : St) (p0 : Int32)  : ∀ res, f_J6_bitCount_0f7a4 p0 = some res → MetX (vX D cy q) l yJ6_bitCount_0f7a4 cJ6_bitCount_0f7a4 1 (some .int) rm_J6_bitCount_0f7a4 [.int p0] σ (some (.int res), σ) := by
  let fin_ : Int32 → Option Value × St := fun r => (some (.int r), σ)
  have hro : ∀ (z : Int32) (res : Int32), some z = some res → fin_ res = fin_ z := fun z res h => by cases h; rfl
  refine MetX.of1 (fin := fin_) (lv := [(0, .int p0)]) (by decide) (Nat.le_of_ble_eq_true rfl) rfl ?_
  unfold f_J6_bitCount_0f7a4
  refine g_iload_n (pc := 0) 0 dJ6_bitCount_0f7a4_0 rfl rfl ?_
  refine g_iload_n (pc := 1) 0 dJ6_bitCount_0f7a4_1 rfl rfl ?_
  refine g_iconst (pc := 2) (1) dJ6_bitCount_0f7a4_2 (by decide) ?_
  refine g_iushr (pc := 3) dJ6_bitCount_0f7a4_3 ?_
  refine g_ldcw (pc := 4) dJ6_bitCount_0f7a4_4 ki_J6_265 ?_
  refine g_iand (pc := 7) dJ6_bitCount_0f7a4_7 ?_
  refine g_isub (pc := 8) dJ6_bitCount_0f7a4_8 ?_
  refine g_nmi (fun x1 => ?_)
  refine g_istore_n (pc := 9) (lv' := [(0, .int x1)]) dJ6_bitCount_0f7a4_9 rfl (Nat.le_of_ble_eq_true rfl) rfl ?_
  refine g_iload_n (pc := 10) 0 dJ6_bitCount_0f7a4_10 rfl rfl ?_
  refine g_ldcw (pc := 11) dJ6_bitCount_0f7a4_11 ki_J6_266 ?_
  refine g_iand (pc := 14) dJ6_bitCount_0f7a4_14 ?_
  refine g_iload_n (pc := 15) 0 dJ6_bitCount_0f7a4_15 rfl rfl ?_
  refine g_iconst (pc := 16) (2) dJ6_bitCount_0f7a4_16 (by decide) ?_
  refine g_iushr (pc := 17) dJ6_bitCount_0f7a4_17 ?_
  refine g_ldcw (pc := 18) dJ6_bitCount_0f7a4_18 ki_J6_266 ?_
  refine g_iand (pc := 21) dJ6_bitCount_0f7a4_21 ?_
  refine g_iadd (pc := 22) dJ6_bitCount_0f7a4_22 ?_
  refine g_nmi (fun x2 => ?_)
  refine g_istore_n (pc := 23) (lv' := [(0, .int x2)]) dJ6_bitCount_0f7a4_23 rfl (Nat.le_of_ble_eq_true rfl) rfl ?_
  refine g_iload_n (pc := 24) 0 dJ6_bitCount_0f7a4_24 rfl rfl ?_
  refine g_iload_n (pc := 25) 0 dJ6_bitCount_0f7a4_25 rfl rfl ?_
  refine g_iconst (pc := 26) (4) dJ6_bitCount_0f7a4_26 (by decide) ?_
  refine g_iushr (pc := 27) dJ6_bitCount_0f7a4_27 ?_
  refine g_iadd (pc := 28) dJ6_bitCount_0f7a4_28 ?_
  refine g_ldcw (pc := 29) dJ6_bitCount_0f7a4_29 ki_J6_267 ?_
  refine g_iand (pc := 32) dJ6_bitCount_0f7a4_32 ?_
  refine g_nmi (fun x3 => ?_)
  refine g_istore_n (pc := 33) (lv' := [(0, .int x3)]) dJ6_bitCount_0f7a4_33 rfl (Nat.le_of_ble_eq_true rfl) rfl ?_
  refine g_iload_n (pc := 34) 0 dJ6_bitCount_0f7a4_34 rfl rfl ?_
  refine g_iload_n (pc := 35) 0 dJ6_bitCount_0f7a4_35 rfl rfl ?_
  refine g_bipush (pc := 36) (8) dJ6_bitCount_0f7a4_36 (by decide) ?_
  refine g_iushr (pc := 38) dJ6_bitCount_0f7a4_38 ?_
  refine g_iadd (pc := 39) dJ6_bitCount_0f7a4_39 ?_
  refine g_nmi (fun x4 => ?_)
  refine g_istore_n (pc := 40) (lv' := [(0, .int x4)]) dJ6_bitCount_0f7a4_40 rfl (Nat.le_of_ble_eq_true rfl) rfl ?_
  refine g_iload_n (pc := 41) 0 dJ6_bitCount_0f7a4_41 rfl rfl ?_
  refine g_iload_n (pc := 42) 0 dJ6_bitCount_0f7a4_42 rfl rfl ?_
  refine g_bipush (pc := 43) (16) dJ6_bitCount_0f7a4_43 (by decide) ?_
  refine g_iushr (pc := 45) dJ6_bitCount_0f7a4_45 ?_
  refine g_iadd (pc := 46) dJ6_bitCount_0f7a4_46 ?_
  refine g_nmi (fun x5 => ?_)
  refine g_istore_n (pc := 47) (lv' := [(0, .int x5)]) dJ6_bitCount_0f7a4_47 rfl (Nat.le_of_ble_eq_true rfl) rfl ?_
  refine g_iload_n (pc := 48) 0 dJ6_bitCount_0f7a4_48 rfl rfl ?_
  refine g_bipush (pc := 49) (63) dJ6_bitCount_0f7a4_49 (by decide) ?_
  refine g_iand (pc := 51) dJ6_bitCount_0f7a4_51 ?_
  exact g_iret (pc := 52) (hro _) rfl dJ6_bitCount_0f7a4_52
def b_X6_join_43 (x1 : Int32) (x2 : Int32) : (Int32 × St) → Option ((Int32 × St) ⊕ (St)) := un fun y1 s1 => (if (256 : Int32) ≤ y1 then some (.inr s1) else chk (inb y1 256) ((if (s1.1 74 y1.toNatClampNeg) = x2 then chk (inb y1 256) (nm (stI s1 74 y1.toNatClampNeg x1) fun s3 => nm (y1 + (1 : Int32)) fun x4 => some (.inl (x4, s3))) else chk (inb y1 256) (chk (inb y1 256) (nm (stI s1 74 y1.toNatClampNeg (s1.1 74 y1.toNatClampNeg)) fun s2 => nm (y1 + (1 : Int32)) fun x3 => some (.inl (x3, s2)))))))
def f_X6_join (one : Int32) (two : Int32) (σ : St) : Option (St) := chk (inb one 256) (chk (inb two 256) (nm (mmin (σ.1 74 one.toNatClampNeg) (σ.1 74 two.toNatClampNeg)) fun x1 => chk (inb one 256) (chk (inb two 256) (nm (mmax (σ.1 74 one.toNatClampNeg) (σ.1 74 two.toNatClampNeg)) fun x2 => (if x1 = x2 then some σ else (wh FU (b_X6_join_43 x1 x2) ((0 : Int32), σ)).bind (fun s4 => some s4))))))
abbrev rm_X6_join : Room := { frames := 1, cells := 0, slots := 0, locals := 21 }
set_option maxHeartbeats 4000000 in
set_option maxRecDepth 20000 in
theorem m_X6_join (l : Launch) (D : va_G) (cy : Cy) (q : Nat → Nat) (σ : St) (one : Int32) (two : Int32)  : ∀ res, f_X6_join one two σ = some res → MetX (vX D cy q) l yX6_join cX6_join 6 none rm_X6_join [.ref (q 73), .int one, .int two] σ (none, res) := by
  let fin_ : St → Option Value × St := fun r => (none, r)
  have hro : ∀ (z : St) (res : St), some z = some res → fin_ res = fin_ z := fun z res h => by cases h; rfl
  refine MetX.of1 (fin := fin_) (lv := [(0, .ref (q 73)), (1, .int one), (2, .int two)]) (by decide) (Nat.le_of_ble_eq_true rfl) rfl ?_
  unfold f_X6_join
  refine g_aload_n (pc := 0) 0 dX6_join_0 rfl rfl ?_
  refine gf_6_group (pc := 1) kf_X6_15 dX6_join_1 ?_
  refine g_iload_n (pc := 4) 1 dX6_join_4 rfl rfl ?_
  refine a_ild (pc := 5) aX_6_group dX6_join_5 ?_
  refine g_aload_n (pc := 6) 0 dX6_join_6 rfl rfl ?_
  refine gf_6_group (pc := 7) kf_X6_15 dX6_join_7 ?_
  refine g_iload_n (pc := 10) 2 dX6_join_10 rfl rfl ?_
  refine a_ild (pc := 11) aX_6_group dX6_join_11 ?_
  refine g_mmin (pc := 12) km_X6_81 ⟨by decide, Nat.le_of_ble_eq_true rfl⟩ dX6_join_12 ?_
  refine g_nmi (fun x1 => ?_)
  refine g_istore_n (pc := 15) (lv' := [(3, .int x1), (0, .ref (q 73)), (1, .int one), (2, .int two)]) dX6_join_15 rfl (Nat.le_of_ble_eq_true rfl) rfl ?_
  refine g_aload_n (pc := 16) 1 dX6_join_16 rfl rfl ?_
  refine gf_6_group (pc := 17) kf_X6_15 dX6_join_17 ?_
  refine g_iload_n (pc := 20) 2 dX6_join_20 rfl rfl ?_
  refine a_ild (pc := 21) aX_6_group dX6_join_21 ?_
  refine g_aload_n (pc := 22) 1 dX6_join_22 rfl rfl ?_
  refine gf_6_group (pc := 23) kf_X6_15 dX6_join_23 ?_
  refine g_iload_n (pc := 26) 3 dX6_join_26 rfl rfl ?_
  refine a_ild (pc := 27) aX_6_group dX6_join_27 ?_
  refine g_mmax (pc := 28) km_X6_87 ⟨by decide, Nat.le_of_ble_eq_true rfl⟩ dX6_join_28 ?_
  refine g_nmi (fun x2 => ?_)
  refine g_istore (pc := 31) (lv' := [(4, .int x2), (3, .int x1), (0, .ref (q 73)), (1, .int one), (2, .int two)]) dX6_join_31 (Nat.le_of_ble_eq_true rfl) rfl ?_
  refine g_iload_n (pc := 33) 1 dX6_join_33 rfl rfl ?_
  refine g_iload (pc := 34) 0 dX6_join_34 rfl ?_
  refine g_icmp_ne (pc := 36) 40 dX6_join_36 (by decide) ?_ ?_
  · refine g_iconst (pc := 40) (0) dX6_join_40 (by decide) ?_
    refine g_istore (pc := 41) (lv' := [(5, .int (0 : Int32)), (4, .int x2), (3, .int x1), (0, .ref (q 73)), (1, .int one), (2, .int two)]) dX6_join_41 (Nat.le_of_ble_eq_true rfl) rfl ?_
    refine g_sub [3, 2, 1, 0] rfl ?_
    refine g_wh2 (pc := 43) (s0 := ((0 : Int32), σ)) (fun (w_ : Int32 × St) => w_.2) (fun (w_ : Int32 × St) => [(0, .ref (q 73)), (3, .int x1), (4, .int x2), (5, .int w_.1)]) (fun (w_ : St) => w_) (fun (w_ : St) => []) 87 ?_ ?_
    · rintro s4
      try dsimp only [un, Sum.elim_inl]
      exact g_vret (pc := 87) (hro _) rfl dX6_join_87
    · intro K43 hx43 ih43
      rintro ⟨y1, s1⟩
      try dsimp only [b_X6_join_43, un]
      refine g_iload (pc := 43) 3 dX6_join_43 rfl ?_
      refine g_sipush (pc := 45) (256) dX6_join_45 (by decide) ?_
      refine g_icmp_ge (pc := 48) 87 dX6_join_48 (by decide) ?_ ?_
      · exact g_sub [] rfl (hx43 s1)
      · refine g_aload_n (pc := 51) 0 dX6_join_51 rfl rfl ?_
        refine gf_6_group (pc := 52) kf_X6_15 dX6_join_52 ?_
        refine g_iload (pc := 55) 3 dX6_join_55 rfl ?_
        refine g_aload_n (pc := 57) 0 dX6_join_57 rfl rfl ?_
        refine gf_6_group (pc := 58) kf_X6_15 dX6_join_58 ?_
        refine g_iload (pc := 61) 3 dX6_join_61 rfl ?_
        refine a_ild (pc := 63) aX_6_group dX6_join_63 ?_
        refine g_iload (pc := 64) 2 dX6_join_64 rfl ?_
        refine g_icmp_ne (pc := 66) 73 dX6_join_66 (by decide) ?_ ?_
        · refine g_aload_n (pc := 73) 0 dX6_join_73 rfl rfl ?_
          refine gf_6_group (pc := 74) kf_X6_15 dX6_join_74 ?_
          refine g_iload (pc := 77) 3 dX6_join_77 rfl ?_
          refine a_ild (pc := 79) aX_6_group dX6_join_79 ?_
          refine a_ist (pc := 80) aX_6_group dX6_join_80 (fun s2 => ?_)
          refine g_iinc (pc := 81) (j := 3) (1) (lf := fun x3 => [(5, .int x3), (0, .ref (q 73)), (3, .int x1), (4, .int x2)]) dX6_join_81 rfl (by decide) (Nat.le_of_ble_eq_true rfl) (fun _ => rfl) (fun x3 => ?_)
          refine g_goto (pc := 84) 43 dX6_join_84 (by decide) ?_
          exact g_sub [1, 2, 3, 0] rfl (ih43 (x3, s2))
        · refine g_iload_n (pc := 69) 1 dX6_join_69 rfl rfl ?_
          refine g_goto (pc := 70) 80 dX6_join_70 (by decide) ?_
          refine a_ist (pc := 80) aX_6_group dX6_join_80 (fun s3 => ?_)
          refine g_iinc (pc := 81) (j := 3) (1) (lf := fun x4 => [(5, .int x4), (0, .ref (q 73)), (3, .int x1), (4, .int x2)]) dX6_join_81 rfl (by decide) (Nat.le_of_ble_eq_true rfl) (fun _ => rfl) (fun x4 => ?_)
          refine g_goto (pc := 84) 43 dX6_join_84 (by decide) ?_
          exact g_sub [1, 2, 3, 0] rfl (ih43 (x4, s3))
  · exact g_vret (pc := 39) (hro _) rfl dX6_join_39
def b_X6_joinStart_2 (program : Nat) (start : Int32) : (Int32 × St) → Option ((Int32 × St) ⊕ ((St) ⊕ (Int32 × St))) := un fun y1 s1 => (if (256 : Int32) ≤ y1 then some (.inr (.inl s1)) else (f_X0_isMeant y1 s1).bind fun r1 => (if r1 = (0 : Int32) then nm (y1 + (1 : Int32)) fun x2 => some (.inl (x2, s1)) else (f_X0_isBroken program y1 s1).bind fun r2 => (if r2 = (0 : Int32) then (f_X6_join start y1 s1).bind fun s2 => nm (y1 + (1 : Int32)) fun x1 => some (.inl (x1, s2)) else some (.inr (.inr ((0 : Int32), s1))))))
def f_X6_joinStart (program : Nat) (start : Int32) (σ : St) : Option (Int32 × St) := (wh FU (b_X6_joinStart_2 program start) ((0 : Int32), σ)).bind (Sum.elim (fun s3 => some ((1 : Int32), s3)) (fun z => some z))
abbrev rm_X6_joinStart : Room := { frames := 2, cells := 0, slots := 0, locals := 46 }
set_option maxHeartbeats 4000000 in
set_option maxRecDepth 20000 in
theorem m_X6_joinStart (l : Launch) (D : va_G) (cy : Cy) (q : Nat → Nat) (σ : St) (program : Nat) (start : Int32) (hprogram : isP program) : ∀ res, f_X6_joinStart program start σ = some res → MetX (vX D cy q) l yX6_joinStart cX6_joinStart 4 (some .boolean) rm_X6_joinStart [.ref (q 73), .ref (q program), .int start] σ (some (.int res.1), res.2) := by
  let fin_ : (Int32 × St) → Option Value × St := fun r => (some (.int r.1), r.2)
  have hro : ∀ (z : Int32 × St) (res : Int32 × St), some z = some res → fin_ res = fin_ z := fun z res h => by cases h; rfl
  refine MetX.of1 (fin := fin_) (lv := [(0, .ref (q 73)), (1, .ref (q program)), (2, .int start)]) (by decide) (Nat.le_of_ble_eq_true rfl) rfl ?_
  unfold f_X6_joinStart
  refine g_iconst (pc := 0) (0) dX6_joinStart_0 (by decide) ?_
  refine g_istore_n (pc := 1) (lv' := [(3, .int (0 : Int32)), (0, .ref (q 73)), (1, .ref (q program)), (2, .int start)]) dX6_joinStart_1 rfl (Nat.le_of_ble_eq_true rfl) rfl ?_
  refine g_sub [1, 2, 3, 0] rfl ?_
  refine g_whr (pc := 2) (s0 := ((0 : Int32), σ)) fin_ (fun (w_ : Int32 × St) => w_.2) (fun (w_ : Int32 × St) => [(0, .ref (q 73)), (1, .ref (q program)), (2, .int start), (3, .int w_.1)]) (fun (w_ : St) => w_) (fun (w_ : St) => []) 49 (fun z => z) (fun _ => rfl) hro ?_ ?_
  · rintro s3
    try dsimp only [un, Sum.elim_inl]
    refine g_iconst (pc := 49) (1) dX6_joinStart_49 (by decide) ?_
    exact g_zret (pc := 50) rfl (hro _) rfl dX6_joinStart_50
  · intro K2 hr2 hx2 ih2
    rintro ⟨y1, s1⟩
    try dsimp only [b_X6_joinStart_2, un]
    refine g_iload_n (pc := 2) 3 dX6_joinStart_2 rfl rfl ?_
    refine g_sipush (pc := 3) (256) dX6_joinStart_3 (by decide) ?_
    refine g_icmp_ge (pc := 6) 49 dX6_joinStart_6 (by decide) ?_ ?_
    · exact g_sub [] rfl (hx2 s1)
    · refine g_aload_n (pc := 9) 0 dX6_joinStart_9 rfl rfl ?_
      refine gf_6_asked (pc := 10) kf_X6_9 dX6_joinStart_10 ?_
      refine g_iload_n (pc := 13) 3 dX6_joinStart_13 rfl rfl ?_
      refine gV_i (pc := 14) [.int y1] [] (m_X0_isMeant l D cy q s1 y1) cw_X0_isMeant km_X6_70 ⟨rfl, rfl, by decide, by decide⟩ (Nat.le_of_ble_eq_true rfl) (eX_0 (cy := cy) (s1.1 71) (s1.2 71)) rfl dX6_joinStart_14 rfl rfl (Nat.le_of_ble_eq_true rfl) (fun r1 => ?_)
      refine g_if_ne (pc := 17) 23 dX6_joinStart_17 (by decide) ?_ ?_
      · refine g_aload_n (pc := 23) 0 dX6_joinStart_23 rfl rfl ?_
        refine gf_6_asked (pc := 24) kf_X6_9 dX6_joinStart_24 ?_
        refine g_aload_n (pc := 27) 1 dX6_joinStart_27 rfl rfl ?_
        refine g_iload_n (pc := 28) 3 dX6_joinStart_28 rfl rfl ?_
        refine gV_i (pc := 29) [.ref (q program), .int y1] [] (m_X0_isBroken l D cy q s1 program y1 hprogram) cw_X0_isBroken km_X6_74 ⟨rfl, rfl, by decide, by decide⟩ (Nat.le_of_ble_eq_true rfl) (eX_0 (cy := cy) (s1.1 71) (s1.2 71)) rfl dX6_joinStart_29 rfl rfl (Nat.le_of_ble_eq_true rfl) (fun r2 => ?_)
        refine g_if_eq (pc := 32) 37 dX6_joinStart_32 (by decide) ?_ ?_
        · refine g_aload_n (pc := 37) 0 dX6_joinStart_37 rfl rfl ?_
          refine g_iload_n (pc := 38) 2 dX6_joinStart_38 rfl rfl ?_
          refine g_iload_n (pc := 39) 3 dX6_joinStart_39 rfl rfl ?_
          refine gV_v (pc := 40) [.int start, .int y1] [] (m_X6_join l D cy q s1 start y1) cw_X6_join km_X6_77 ⟨rfl, rfl, by decide, by decide⟩ (Nat.le_of_ble_eq_true rfl) (eX_6 (cy := cy) (s1.1 73) (s1.2 73)) rfl dX6_joinStart_40 rfl rfl (Nat.le_of_ble_eq_true rfl) (fun s2 => ?_)
          refine g_iinc (pc := 43) (j := 3) (1) (lf := fun x1 => [(3, .int x1), (0, .ref (q 73)), (1, .ref (q program)), (2, .int start)]) dX6_joinStart_43 rfl (by decide) (Nat.le_of_ble_eq_true rfl) (fun _ => rfl) (fun x1 => ?_)
          refine g_goto (pc := 46) 2 dX6_joinStart_46 (by decide) ?_
          exact g_sub [1, 2, 3, 0] rfl (ih2 (x1, s2))
        · refine g_iconst (pc := 35) (0) dX6_joinStart_35 (by decide) ?_
          exact g_zret (pc := 36) rfl (hr2 _) rfl dX6_joinStart_36
      · refine g_goto (pc := 20) 43 dX6_joinStart_20 (by decide) ?_
        refine g_iinc (pc := 43) (j := 3) (1) (lf := fun x2 => [(3, .int x2), (0, .ref (q 73)), (1, .ref (q program)), (2, .int start)]) dX6_joinStart_43 rfl (by decide) (Nat.le_of_ble_eq_true rfl) (fun _ => rfl) (fun x2 => ?_)
        refine g_goto (pc := 46) 2 dX6_joinStart_46 (by decide) ?_
        exact g_sub [1, 2, 3, 0] rfl (ih2 (x2, s1))
def b_X6_joinAll_2 : (Int32 × St) → Option ((Int32 × St) ⊕ (St)) := un fun y1 s1 => (if (256 : Int32) ≤ y1 then some (.inr s1) else chk (inb y1 256) (nm (stI s1 74 y1.toNatClampNeg y1) fun s2 => nm (y1 + (1 : Int32)) fun x1 => some (.inl (x1, s2))))
def b_X6_joinAll_24 (saying : Nat) (program : Nat) : (Int32 × St) → Option ((Int32 × St) ⊕ ((St) ⊕ (Int32 × St))) := un fun y2 s4 => (if (256 : Int32) ≤ y2 then some (.inr (.inl s4)) else (f_X0_take saying program y2 s4).bind fun s5 => nm (stL s5 71 4 ((s5.2 71 4) &&& (-1125899906842624 : Int64))) fun s6 => (f_X6_joinStart program y2 s6).bind (un fun r1 s7 => (if r1 = (0 : Int32) then some (.inr (.inr ((0 : Int32), s7))) else nm (y2 + (1 : Int32)) fun x2 => some (.inl (x2, s7)))))
def f_X6_joinAll (saying : Nat) (program : Nat) (σ : St) : Option (Int32 × St) := (wh FU b_X6_joinAll_2 ((0 : Int32), σ)).bind (fun s3 => (wh FU (b_X6_joinAll_24 saying program) ((0 : Int32), s3)).bind (Sum.elim (fun s8 => some ((1 : Int32), s8)) (fun z => some z)))
abbrev rm_X6_joinAll : Room := { frames := 4, cells := 0, slots := 0, locals := 93 }
set_option maxHeartbeats 4000000 in
set_option maxRecDepth 20000 in
theorem m_X6_joinAll (l : Launch) (D : va_G) (cy : Cy) (q : Nat → Nat) (σ : St) (saying : Nat) (program : Nat) (hsaying : isS saying) (hprogram : isP program) : ∀ res, f_X6_joinAll saying program σ = some res → MetX (vX D cy q) l yX6_joinAll cX6_joinAll 4 (some .boolean) rm_X6_joinAll [.ref (q 73), .ref (q saying), .ref (q program)] σ (some (.int res.1), res.2) := by
  let fin_ : (Int32 × St) → Option Value × St := fun r => (some (.int r.1), r.2)
  have hro : ∀ (z : Int32 × St) (res : Int32 × St), some z = some res → fin_ res = fin_ z := fun z res h => by cases h; rfl
  refine MetX.of1 (fin := fin_) (lv := [(0, .ref (q 73)), (1, .ref (q saying)), (2, .ref (q program))]) (by decide) (Nat.le_of_ble_eq_true rfl) rfl ?_
  unfold f_X6_joinAll
  refine g_iconst (pc := 0) (0) dX6_joinAll_0 (by decide) ?_
  refine g_istore_n (pc := 1) (lv' := [(3, .int (0 : Int32)), (0, .ref (q 73)), (1, .ref (q saying)), (2, .ref (q program))]) dX6_joinAll_1 rfl (Nat.le_of_ble_eq_true rfl) rfl ?_
  refine g_sub [1, 2, 3, 0] rfl ?_
  refine g_wh2 (pc := 2) (s0 := ((0 : Int32), σ)) (fun (w_ : Int32 × St) => w_.2) (fun (w_ : Int32 × St) => [(0, .ref (q 73)), (1, .ref (q saying)), (2, .ref (q program)), (3, .int w_.1)]) (fun (w_ : St) => w_) (fun (w_ : St) => [(0, .ref (q 73)), (1, .ref (q saying)), (2, .ref (q program))]) 22 ?_ ?_
  · rintro s3
    try dsimp only [un, Sum.elim_inl]
    refine g_iconst (pc := 22) (0) dX6_joinAll_22 (by decide) ?_
    refine g_istore_n (pc := 23) (lv' := [(3, .int (0 : Int32)), (0, .ref (q 73)), (1, .ref (q saying)), (2, .ref (q program))]) dX6_joinAll_23 rfl (Nat.le_of_ble_eq_true rfl) rfl ?_
    refine g_sub [1, 2, 3, 0] rfl ?_
    refine g_whr (pc := 24) (s0 := ((0 : Int32), s3)) fin_ (fun (w_ : Int32 × St) => w_.2) (fun (w_ : Int32 × St) => [(0, .ref (q 73)), (1, .ref (q saying)), (2, .ref (q program)), (3, .int w_.1)]) (fun (w_ : St) => w_) (fun (w_ : St) => []) 73 (fun z => z) (fun _ => rfl) hro ?_ ?_
    · rintro s8
      try dsimp only [un, Sum.elim_inl]
      refine g_iconst (pc := 73) (1) dX6_joinAll_73 (by decide) ?_
      exact g_zret (pc := 74) rfl (hro _) rfl dX6_joinAll_74
    · intro K24 hr24 hx24 ih24
      rintro ⟨y2, s4⟩
      try dsimp only [b_X6_joinAll_24, un]
      refine g_iload_n (pc := 24) 3 dX6_joinAll_24 rfl rfl ?_
      refine g_sipush (pc := 25) (256) dX6_joinAll_25 (by decide) ?_
      refine g_icmp_ge (pc := 28) 73 dX6_joinAll_28 (by decide) ?_ ?_
      · exact g_sub [] rfl (hx24 s4)
      · refine g_aload_n (pc := 31) 0 dX6_joinAll_31 rfl rfl ?_
        refine gf_6_asked (pc := 32) kf_X6_9 dX6_joinAll_32 ?_
        refine g_aload_n (pc := 35) 1 dX6_joinAll_35 rfl rfl ?_
        refine g_aload_n (pc := 36) 2 dX6_joinAll_36 rfl rfl ?_
        refine g_iload_n (pc := 37) 3 dX6_joinAll_37 rfl rfl ?_
        refine gV_v (pc := 38) [.ref (q saying), .ref (q program), .int y2] [] (m_X0_take l D cy q s4 saying program y2 hsaying hprogram) cw_X0_take km_X6_58 ⟨rfl, rfl, by decide, by decide⟩ (Nat.le_of_ble_eq_true rfl) (eX_0 (cy := cy) (s4.1 71) (s4.2 71)) rfl dX6_joinAll_38 rfl rfl (Nat.le_of_ble_eq_true rfl) (fun s5 => ?_)
        refine g_aload_n (pc := 41) 0 dX6_joinAll_41 rfl rfl ?_
        refine gf_6_asked (pc := 42) kf_X6_9 dX6_joinAll_42 ?_
        refine g_dup (pc := 45) dX6_joinAll_45 rfl ?_
        refine gf_0_alike (pc := 46) kf_X6_64 dX6_joinAll_46 ?_
        refine g_ldc2 (pc := 49) dX6_joinAll_49 kl_X6_65 ?_
        refine g_land (pc := 52) dX6_joinAll_52 ?_
        refine gp_0_alike (pc := 53) kf_X6_64 dX6_joinAll_53 (fun s6 => ?_)
        refine g_aload_n (pc := 56) 0 dX6_joinAll_56 rfl rfl ?_
        refine g_aload_n (pc := 57) 2 dX6_joinAll_57 rfl rfl ?_
        refine g_iload_n (pc := 58) 3 dX6_joinAll_58 rfl rfl ?_
        refine gV_e (pc := 59) [.ref (q program), .int y2] [] (m_X6_joinStart l D cy q s6 program y2 hprogram) cw_X6_joinStart km_X6_67 ⟨rfl, rfl, by decide, by decide⟩ (Nat.le_of_ble_eq_true rfl) (eX_6 (cy := cy) (s6.1 73) (s6.2 73)) rfl dX6_joinAll_59 rfl rfl (Nat.le_of_ble_eq_true rfl) (fun r1 s7 => ?_)
        refine g_if_ne (pc := 62) 67 dX6_joinAll_62 (by decide) ?_ ?_
        · refine g_iinc (pc := 67) (j := 3) (1) (lf := fun x2 => [(3, .int x2), (0, .ref (q 73)), (1, .ref (q saying)), (2, .ref (q program))]) dX6_joinAll_67 rfl (by decide) (Nat.le_of_ble_eq_true rfl) (fun _ => rfl) (fun x2 => ?_)
          refine g_goto (pc := 70) 24 dX6_joinAll_70 (by decide) ?_
          exact g_sub [1, 2, 3, 0] rfl (ih24 (x2, s7))
        · refine g_iconst (pc := 65) (0) dX6_joinAll_65 (by decide) ?_
          exact g_zret (pc := 66) rfl (hr24 _) rfl dX6_joinAll_66
  · intro K2 hx2 ih2
    rintro ⟨y1, s1⟩
    try dsimp only [b_X6_joinAll_2, un]
    refine g_iload_n (pc := 2) 3 dX6_joinAll_2 rfl rfl ?_
    refine g_sipush (pc := 3) (256) dX6_joinAll_3 (by decide) ?_
    refine g_icmp_ge (pc := 6) 22 dX6_joinAll_6 (by decide) ?_ ?_
    · exact g_sub [0, 1, 2] rfl (hx2 s1)
    · refine g_aload_n (pc := 9) 0 dX6_joinAll_9 rfl rfl ?_
      refine gf_6_group (pc := 10) kf_X6_15 dX6_joinAll_10 ?_
      refine g_iload_n (pc := 13) 3 dX6_joinAll_13 rfl rfl ?_
      refine g_iload_n (pc := 14) 3 dX6_joinAll_14 rfl rfl ?_
      refine a_ist (pc := 15) aX_6_group dX6_joinAll_15 (fun s2 => ?_)
      refine g_iinc (pc := 16) (j := 3) (1) (lf := fun x1 => [(3, .int x1), (0, .ref (q 73)), (1, .ref (q saying)), (2, .ref (q program))]) dX6_joinAll_16 rfl (by decide) (Nat.le_of_ble_eq_true rfl) (fun _ => rfl) (fun x1 => ?_)
      refine g_goto (pc := 19) 2 dX6_joinAll_19 (by decide) ?_
      exact g_sub [1, 2, 3, 0] rfl (ih2 (x1, s2))
def b_X6_isAlike_2 (program : Nat) (quiet : Int32) : (Int32 × St) → Option ((Int32 × St) ⊕ ((St) ⊕ (Int32 × St))) := un fun y1 s1 => (if (256 : Int32) ≤ y1 then some (.inr (.inl s1)) else (f_X4_shownUnder program y1 quiet s1).bind fun r1 => chk (inb y1 256) (nm (stL s1 75 y1.toNatClampNeg r1) fun s2 => chk (inb y1 256) (chk (inb y1 256) (chk (inb (s2.1 74 y1.toNatClampNeg) 256) ((if (lg_cmp (s2.2 75 y1.toNatClampNeg) (s2.2 75 (s2.1 74 y1.toNatClampNeg).toNatClampNeg)) = (0 : Int32) then nm (y1 + (1 : Int32)) fun x1 => some (.inl (x1, s2)) else some (.inr (.inr ((0 : Int32), s2)))))))))
def f_X6_isAlike (program : Nat) (quiet : Int32) (σ : St) : Option (Int32 × St) := (wh FU (b_X6_isAlike_2 program quiet) ((0 : Int32), σ)).bind (Sum.elim (fun s3 => some ((1 : Int32), s3)) (fun z => some z))
abbrev rm_X6_isAlike : Room := { frames := 2, cells := 0, slots := 0, locals := 49 }
set_option maxHeartbeats 4000000 in
set_option maxRecDepth 20000 in
theorem m_X6_isAlike (l : Launch) (D : va_G) (cy : Cy) (q : Nat → Nat) (σ : St) (program : Nat) (quiet : Int32) (hprogram : isP program) : ∀ res, f_X6_isAlike program quiet σ = some res → MetX (vX D cy q) l yX6_isAlike cX6_isAlike 4 (some .boolean) rm_X6_isAlike [.ref (q 73), .ref (q program), .int quiet] σ (some (.int res.1), res.2) := by
  let fin_ : (Int32 × St) → Option Value × St := fun r => (some (.int r.1), r.2)
  have hro : ∀ (z : Int32 × St) (res : Int32 × St), some z = some res → fin_ res = fin_ z := fun z res h => by cases h; rfl
  refine MetX.of1 (fin := fin_) (lv := [(0, .ref (q 73)), (1, .ref (q program)), (2, .int quiet)]) (by decide) (Nat.le_of_ble_eq_true rfl) rfl ?_
  unfold f_X6_isAlike
  refine g_iconst (pc := 0) (0) dX6_isAlike_0 (by decide) ?_
  refine g_istore_n (pc := 1) (lv' := [(3, .int (0 : Int32)), (0, .ref (q 73)), (1, .ref (q program)), (2, .int quiet)]) dX6_isAlike_1 rfl (Nat.le_of_ble_eq_true rfl) rfl ?_
  refine g_sub [1, 2, 3, 0] rfl ?_
  refine g_whr (pc := 2) (s0 := ((0 : Int32), σ)) fin_ (fun (w_ : Int32 × St) => w_.2) (fun (w_ : Int32 × St) => [(0, .ref (q 73)), (1, .ref (q program)), (2, .int quiet), (3, .int w_.1)]) (fun (w_ : St) => w_) (fun (w_ : St) => []) 50 (fun z => z) (fun _ => rfl) hro ?_ ?_
  · rintro s3
    try dsimp only [un, Sum.elim_inl]
    refine g_iconst (pc := 50) (1) dX6_isAlike_50 (by decide) ?_
    exact g_zret (pc := 51) rfl (hro _) rfl dX6_isAlike_51
  · intro K2 hr2 hx2 ih2
    rintro ⟨y1, s1⟩
    try dsimp only [b_X6_isAlike_2, un]
    refine g_iload_n (pc := 2) 3 dX6_isAlike_2 rfl rfl ?_
    refine g_sipush (pc := 3) (256) dX6_isAlike_3 (by decide) ?_
    refine g_icmp_ge (pc := 6) 50 dX6_isAlike_6 (by decide) ?_ ?_
    · exact g_sub [] rfl (hx2 s1)
    · refine g_aload_n (pc := 9) 0 dX6_isAlike_9 rfl rfl ?_
      refine gf_6_shown (pc := 10) kf_X6_19 dX6_isAlike_10 ?_
      refine g_iload_n (pc := 13) 3 dX6_isAlike_13 rfl rfl ?_
      refine g_aload_n (pc := 14) 1 dX6_isAlike_14 rfl rfl ?_
      refine g_iload_n (pc := 15) 3 dX6_isAlike_15 rfl rfl ?_
      refine g_iload_n (pc := 16) 2 dX6_isAlike_16 rfl rfl ?_
      refine gV_l (pc := 17) [.int y1, .int quiet] [.int y1, .ref (q 75)] (m_X4_shownUnder l D cy q s1 program y1 quiet hprogram) cw_X4_shownUnder km_X6_90 ⟨rfl, rfl, by decide, by decide⟩ (by have := hprogram.lt; show program < 88; omega) (eX_4 (cy := cy) hprogram (s1.1 program) (s1.2 program)) rfl dX6_isAlike_17 rfl rfl (Nat.le_of_ble_eq_true rfl) (fun r1 => ?_)
      refine a_lst (pc := 20) aX_6_shown dX6_isAlike_20 (fun s2 => ?_)
      refine g_aload_n (pc := 21) 0 dX6_isAlike_21 rfl rfl ?_
      refine gf_6_shown (pc := 22) kf_X6_19 dX6_isAlike_22 ?_
      refine g_iload_n (pc := 25) 3 dX6_isAlike_25 rfl rfl ?_
      refine a_lld (pc := 26) aX_6_shown dX6_isAlike_26 ?_
      refine g_aload_n (pc := 27) 0 dX6_isAlike_27 rfl rfl ?_
      refine gf_6_shown (pc := 28) kf_X6_19 dX6_isAlike_28 ?_
      refine g_aload_n (pc := 31) 0 dX6_isAlike_31 rfl rfl ?_
      refine gf_6_group (pc := 32) kf_X6_15 dX6_isAlike_32 ?_
      refine g_iload_n (pc := 35) 3 dX6_isAlike_35 rfl rfl ?_
      refine a_ild (pc := 36) aX_6_group dX6_isAlike_36 ?_
      refine a_lld (pc := 37) aX_6_shown dX6_isAlike_37 ?_
      refine g_lcmp (pc := 38) dX6_isAlike_38 ?_
      refine g_if_eq (pc := 39) 44 dX6_isAlike_39 (by decide) ?_ ?_
      · refine g_iinc (pc := 44) (j := 3) (1) (lf := fun x1 => [(3, .int x1), (0, .ref (q 73)), (1, .ref (q program)), (2, .int quiet)]) dX6_isAlike_44 rfl (by decide) (Nat.le_of_ble_eq_true rfl) (fun _ => rfl) (fun x1 => ?_)
        refine g_goto (pc := 47) 2 dX6_isAlike_47 (by decide) ?_
        exact g_sub [1, 2, 3, 0] rfl (ih2 (x1, s2))
      · refine g_iconst (pc := 42) (0) dX6_isAlike_42 (by decide) ?_
        exact g_zret (pc := 43) rfl (hr2 _) rfl dX6_isAlike_43
def b_X6_fewest_54 (program : Nat) (r1 : Int32) (x1 : Int32) : (Int32 × Int32 × Int32 × St) → Option ((Int32 × Int32 × Int32 × St) ⊕ (Int32 × St)) := un fun y1 => un fun y2 => un fun y3 s3 => (if x1 ≤ y3 then some (.inr (y1, s3)) else (if y1 = (-6 : Int32) then (f_X6_isAlike program ((s3.1 program 6) ||| y2) s3).bind (un fun r4 s4 => (if r4 = (0 : Int32) then nm ((y2 - r1) &&& r1) fun x2 => nm (y3 + (1 : Int32)) fun x3 => some (.inl (y1, x2, x3, s4)) else nm ((y2 - r1) &&& r1) fun x4 => nm (y3 + (1 : Int32)) fun x5 => some (.inl (y2, x4, x5, s4)))) else (f_J6_bitCount_0f7a4 y2).bind fun r5 => (f_J6_bitCount_0f7a4 y1).bind fun r6 => (if r6 ≤ r5 then nm ((y2 - r1) &&& r1) fun x6 => nm (y3 + (1 : Int32)) fun x7 => some (.inl (y1, x6, x7, s3)) else (f_X6_isAlike program ((s3.1 program 6) ||| y2) s3).bind (un fun r7 s5 => (if r7 = (0 : Int32) then nm ((y2 - r1) &&& r1) fun x8 => nm (y3 + (1 : Int32)) fun x9 => some (.inl (y1, x8, x9, s5)) else nm ((y2 - r1) &&& r1) fun x10 => nm (y3 + (1 : Int32)) fun x11 => some (.inl (y2, x10, x11, s5)))))))
def f_X6_fewest (saying : Nat) (program : Nat) (σ : St) : Option (Int32 × St) := (f_X4_loudLines program σ).bind fun r1 => (f_J6_bitCount_0f7a4 r1).bind fun r2 => nm ((1 : Int32) <<< (r2 &&& 31)) fun x1 => (f_X4_traceAll program σ).bind fun s1 => (f_X6_joinAll saying program s1).bind (un fun r3 s2 => (if r3 = (0 : Int32) then some ((-6 : Int32), s2) else (if (lg_cmp ((s2.2 saying 2) &&& (1125899906842623 : Int64)) (0 : Int64)) = (0 : Int32) then some ((0 : Int32), s2) else (wh FU (b_X6_fewest_54 program r1 x1) ((-6 : Int32), (0 : Int32), (0 : Int32), s2)).bind (un fun z1 s6 => some (z1, s6)))))
abbrev rm_X6_fewest : Room := { frames := 5, cells := 0, slots := 0, locals := 116 }
set_option maxHeartbeats 4000000 in
set_option maxRecDepth 20000 in
theorem m_X6_fewest (l : Launch) (D : va_G) (cy : Cy) (q : Nat → Nat) (σ : St) (saying : Nat) (program : Nat) (hsaying : isS saying) (hprogram : isP program) : ∀ res, f_X6_fewest saying program σ = some res → MetX (vX D cy q) l yX6_fewest cX6_fewest 9 (some .int) rm_X6_fewest [.ref (q 73), .ref (q saying), .ref (q program)] σ (some (.int res.1), res.2) := by
  let fin_ : (Int32 × St) → Option Value × St := fun r => (some (.int r.1), r.2)
  have hro : ∀ (z : Int32 × St) (res : Int32 × St), some z = some res → fin_ res = fin_ z := fun z res h => by cases h; rfl
  refine MetX.of1 (fin := fin_) (lv := [(0, .ref (q 73)), (1, .ref (q saying)), (2, .ref (q program))]) (by decide) (Nat.le_of_ble_eq_true rfl) rfl ?_
  unfold f_X6_fewest
  refine g_aload_n (pc := 0) 2 dX6_fewest_0 rfl rfl ?_
  refine gV_i (pc := 1) [] [] (m_X4_loudLines l D cy q σ program hprogram) cw_X4_loudLines km_X6_23 ⟨rfl, rfl, by decide, by decide⟩ (by have := hprogram.lt; show program < 88; omega) (eX_4 (cy := cy) hprogram (σ.1 program) (σ.2 program)) rfl dX6_fewest_1 rfl rfl (Nat.le_of_ble_eq_true rfl) (fun r1 => ?_)
  refine g_istore_n (pc := 4) (lv' := [(3, .int r1), (0, .ref (q 73)), (1, .ref (q saying)), (2, .ref (q program))]) dX6_fewest_4 rfl (Nat.le_of_ble_eq_true rfl) rfl ?_
  refine g_iconst (pc := 5) (1) dX6_fewest_5 (by decide) ?_
  refine g_iload_n (pc := 6) 0 dX6_fewest_6 rfl rfl ?_
  refine gS_i (pc := 7) [.int r1] [.int (1 : Int32)] (m_J6_bitCount_0f7a4 l D cy q σ r1) cw_J6_bitCount_0f7a4 km_X6_29 ⟨rfl, rfl, by decide, by decide⟩ dX6_fewest_7 rfl rfl (Nat.le_of_ble_eq_true rfl) (fun r2 => ?_)
  refine g_ishl (pc := 10) dX6_fewest_10 ?_
  refine g_nmi (fun x1 => ?_)
  refine g_istore (pc := 11) (lv' := [(4, .int x1), (3, .int r1), (0, .ref (q 73)), (1, .ref (q saying)), (2, .ref (q program))]) dX6_fewest_11 (Nat.le_of_ble_eq_true rfl) rfl ?_
  refine g_aload_n (pc := 13) 4 dX6_fewest_13 rfl rfl ?_
  refine gV_v (pc := 14) [] [] (m_X4_traceAll l D cy q σ program hprogram) cw_X4_traceAll km_X6_35 ⟨rfl, rfl, by decide, by decide⟩ (by have := hprogram.lt; show program < 88; omega) (eX_4 (cy := cy) hprogram (σ.1 program) (σ.2 program)) rfl dX6_fewest_14 rfl rfl (Nat.le_of_ble_eq_true rfl) (fun s1 => ?_)
  refine g_aload_n (pc := 17) 2 dX6_fewest_17 rfl rfl ?_
  refine g_aload_n (pc := 18) 3 dX6_fewest_18 rfl rfl ?_
  refine g_aload_n (pc := 19) 4 dX6_fewest_19 rfl rfl ?_
  refine gV_e (pc := 20) [.ref (q saying), .ref (q program)] [] (m_X6_joinAll l D cy q s1 saying program hsaying hprogram) cw_X6_joinAll km_X6_38 ⟨rfl, rfl, by decide, by decide⟩ (Nat.le_of_ble_eq_true rfl) (eX_6 (cy := cy) (s1.1 73) (s1.2 73)) rfl dX6_fewest_20 rfl rfl (Nat.le_of_ble_eq_true rfl) (fun r3 s2 => ?_)
  refine g_if_ne (pc := 23) 29 dX6_fewest_23 (by decide) ?_ ?_
  · refine g_aload_n (pc := 29) 3 dX6_fewest_29 rfl rfl ?_
    refine gf_5_alike (pc := 30) hsaying kf_X6_42 dX6_fewest_30 ?_
    refine g_ldc2 (pc := 33) dX6_fewest_33 kl_X6_48 ?_
    refine g_land (pc := 36) dX6_fewest_36 ?_
    refine g_lconst (pc := 37) (0) dX6_fewest_37 (by decide) ?_
    refine g_lcmp (pc := 38) dX6_fewest_38 ?_
    refine g_if_ne (pc := 39) 44 dX6_fewest_39 (by decide) ?_ ?_
    · refine g_bipush (pc := 44) (-6) dX6_fewest_44 (by decide) ?_
      refine g_istore (pc := 46) (lv' := [(5, .int (-6 : Int32)), (4, .int x1), (3, .int r1), (0, .ref (q 73)), (1, .ref (q saying)), (2, .ref (q program))]) dX6_fewest_46 (Nat.le_of_ble_eq_true rfl) rfl ?_
      refine g_iconst (pc := 48) (0) dX6_fewest_48 (by decide) ?_
      refine g_istore (pc := 49) (lv' := [(6, .int (0 : Int32)), (5, .int (-6 : Int32)), (4, .int x1), (3, .int r1), (0, .ref (q 73)), (1, .ref (q saying)), (2, .ref (q program))]) dX6_fewest_49 (Nat.le_of_ble_eq_true rfl) rfl ?_
      refine g_iconst (pc := 51) (0) dX6_fewest_51 (by decide) ?_
      refine g_istore (pc := 52) (lv' := [(7, .int (0 : Int32)), (6, .int (0 : Int32)), (5, .int (-6 : Int32)), (4, .int x1), (3, .int r1), (0, .ref (q 73)), (1, .ref (q saying)), (2, .ref (q program))]) dX6_fewest_52 (Nat.le_of_ble_eq_true rfl) rfl ?_
      refine g_sub [5, 7, 4, 3, 2, 1, 0] rfl ?_
      refine g_wh2 (pc := 54) (s0 := ((-6 : Int32), (0 : Int32), (0 : Int32), s2)) (fun (w_ : Int32 × Int32 × Int32 × St) => w_.2.2.2) (fun (w_ : Int32 × Int32 × Int32 × St) => [(0, .ref (q 73)), (2, .ref (q program)), (3, .int r1), (4, .int x1), (5, .int w_.1), (6, .int w_.2.1), (7, .int w_.2.2.1)]) (fun (w_ : Int32 × St) => w_.2) (fun (w_ : Int32 × St) => [(5, .int w_.1)]) 126 ?_ ?_
      · rintro ⟨z1, s6⟩
        try dsimp only [un, Sum.elim_inl]
        refine g_iload (pc := 126) 0 dX6_fewest_126 rfl ?_
        exact g_iret (pc := 128) (hro _) rfl dX6_fewest_128
      · intro K54 hx54 ih54
        rintro ⟨y1, y2, y3, s3⟩
        try dsimp only [b_X6_fewest_54, un]
        refine g_iload (pc := 54) 6 dX6_fewest_54 rfl ?_
        refine g_iload (pc := 56) 3 dX6_fewest_56 rfl ?_
        refine g_icmp_ge (pc := 58) 126 dX6_fewest_58 (by decide) ?_ ?_
        · exact g_sub [4] rfl (hx54 (y1, s3))
        · refine g_iload (pc := 61) 4 dX6_fewest_61 rfl ?_
          refine g_bipush (pc := 63) (-6) dX6_fewest_63 (by decide) ?_
          refine g_icmp_eq (pc := 65) 81 dX6_fewest_65 (by decide) ?_ ?_
          · refine g_iconst (pc := 81) (1) dX6_fewest_81 (by decide) ?_
            refine g_goto (pc := 82) 86 dX6_fewest_82 (by decide) ?_
            refine g_istore (pc := 86) (lv' := [(8, .int (1 : Int32)), (0, .ref (q 73)), (2, .ref (q program)), (3, .int r1), (4, .int x1), (5, .int y1), (6, .int y2), (7, .int y3)]) dX6_fewest_86 (Nat.le_of_ble_eq_true rfl) rfl ?_
            refine g_iload (pc := 88) 0 dX6_fewest_88 rfl ?_
            refine g_ifeq_n (pc := 90) 112 (by decide) dX6_fewest_90 (by decide) ?_
            refine g_aload_n (pc := 93) 1 dX6_fewest_93 rfl rfl ?_
            refine g_aload_n (pc := 94) 2 dX6_fewest_94 rfl rfl ?_
            refine g_aload_n (pc := 95) 2 dX6_fewest_95 rfl rfl ?_
            refine gf_4_hushed (pc := 96) hprogram kf_X6_50 dX6_fewest_96 ?_
            refine g_iload (pc := 99) 6 dX6_fewest_99 rfl ?_
            refine g_ior (pc := 101) dX6_fewest_101 ?_
            refine gV_e (pc := 102) [.ref (q program), .int ((s3.1 program 6) ||| y2)] [] (m_X6_isAlike l D cy q s3 program ((s3.1 program 6) ||| y2) hprogram) cw_X6_isAlike km_X6_54 ⟨rfl, rfl, by decide, by decide⟩ (Nat.le_of_ble_eq_true rfl) (eX_6 (cy := cy) (s3.1 73) (s3.2 73)) rfl dX6_fewest_102 rfl rfl (Nat.le_of_ble_eq_true rfl) (fun r4 s4 => ?_)
            refine g_if_eq (pc := 105) 112 dX6_fewest_105 (by decide) ?_ ?_
            · refine g_iload (pc := 112) 6 dX6_fewest_112 rfl ?_
              refine g_iload_n (pc := 114) 3 dX6_fewest_114 rfl rfl ?_
              refine g_isub (pc := 115) dX6_fewest_115 ?_
              refine g_iload_n (pc := 116) 3 dX6_fewest_116 rfl rfl ?_
              refine g_iand (pc := 117) dX6_fewest_117 ?_
              refine g_nmi (fun x2 => ?_)
              refine g_istore (pc := 118) (lv' := [(6, .int x2), (8, .int (1 : Int32)), (0, .ref (q 73)), (2, .ref (q program)), (3, .int r1), (4, .int x1), (5, .int y1), (7, .int y3)]) dX6_fewest_118 (Nat.le_of_ble_eq_true rfl) rfl ?_
              refine g_iinc (pc := 120) (j := 7) (1) (lf := fun x3 => [(7, .int x3), (6, .int x2), (8, .int (1 : Int32)), (0, .ref (q 73)), (2, .ref (q program)), (3, .int r1), (4, .int x1), (5, .int y1)]) dX6_fewest_120 rfl (by decide) (Nat.le_of_ble_eq_true rfl) (fun _ => rfl) (fun x3 => ?_)
              refine g_goto (pc := 123) 54 dX6_fewest_123 (by decide) ?_
              exact g_sub [3, 4, 5, 6, 7, 1, 0] rfl (ih54 (y1, x2, x3, s4))
            · refine g_iload (pc := 108) 6 dX6_fewest_108 rfl ?_
              refine g_istore (pc := 110) (lv' := [(5, .int y2), (8, .int (1 : Int32)), (0, .ref (q 73)), (2, .ref (q program)), (3, .int r1), (4, .int x1), (6, .int y2), (7, .int y3)]) dX6_fewest_110 (Nat.le_of_ble_eq_true rfl) rfl ?_
              refine g_iload (pc := 112) 6 dX6_fewest_112 rfl ?_
              refine g_iload_n (pc := 114) 4 dX6_fewest_114 rfl rfl ?_
              refine g_isub (pc := 115) dX6_fewest_115 ?_
              refine g_iload_n (pc := 116) 4 dX6_fewest_116 rfl rfl ?_
              refine g_iand (pc := 117) dX6_fewest_117 ?_
              refine g_nmi (fun x4 => ?_)
              refine g_istore (pc := 118) (lv' := [(6, .int x4), (5, .int y2), (8, .int (1 : Int32)), (0, .ref (q 73)), (2, .ref (q program)), (3, .int r1), (4, .int x1), (7, .int y3)]) dX6_fewest_118 (Nat.le_of_ble_eq_true rfl) rfl ?_
              refine g_iinc (pc := 120) (j := 7) (1) (lf := fun x5 => [(7, .int x5), (6, .int x4), (5, .int y2), (8, .int (1 : Int32)), (0, .ref (q 73)), (2, .ref (q program)), (3, .int r1), (4, .int x1)]) dX6_fewest_120 rfl (by decide) (Nat.le_of_ble_eq_true rfl) (fun _ => rfl) (fun x5 => ?_)
              refine g_goto (pc := 123) 54 dX6_fewest_123 (by decide) ?_
              exact g_sub [4, 5, 6, 7, 2, 1, 0] rfl (ih54 (y2, x4, x5, s4))
          · refine g_iload (pc := 68) 5 dX6_fewest_68 rfl ?_
            refine gS_i (pc := 70) [.int y2] [] (m_J6_bitCount_0f7a4 l D cy q s3 y2) cw_J6_bitCount_0f7a4 km_X6_29 ⟨rfl, rfl, by decide, by decide⟩ dX6_fewest_70 rfl rfl (Nat.le_of_ble_eq_true rfl) (fun r5 => ?_)
            refine g_iload (pc := 73) 4 dX6_fewest_73 rfl ?_
            refine gS_i (pc := 75) [.int y1] [.int r5] (m_J6_bitCount_0f7a4 l D cy q s3 y1) cw_J6_bitCount_0f7a4 km_X6_29 ⟨rfl, rfl, by decide, by decide⟩ dX6_fewest_75 rfl rfl (Nat.le_of_ble_eq_true rfl) (fun r6 => ?_)
            refine g_icmp_ge (pc := 78) 85 dX6_fewest_78 (by decide) ?_ ?_
            · refine g_iconst (pc := 85) (0) dX6_fewest_85 (by decide) ?_
              refine g_istore (pc := 86) (lv' := [(8, .int (0 : Int32)), (0, .ref (q 73)), (2, .ref (q program)), (3, .int r1), (4, .int x1), (5, .int y1), (6, .int y2), (7, .int y3)]) dX6_fewest_86 (Nat.le_of_ble_eq_true rfl) rfl ?_
              refine g_iload (pc := 88) 0 dX6_fewest_88 rfl ?_
              refine g_ifeq_y (pc := 90) 112 (by decide) dX6_fewest_90 (by decide) ?_
              refine g_iload (pc := 112) 6 dX6_fewest_112 rfl ?_
              refine g_iload_n (pc := 114) 3 dX6_fewest_114 rfl rfl ?_
              refine g_isub (pc := 115) dX6_fewest_115 ?_
              refine g_iload_n (pc := 116) 3 dX6_fewest_116 rfl rfl ?_
              refine g_iand (pc := 117) dX6_fewest_117 ?_
              refine g_nmi (fun x6 => ?_)
              refine g_istore (pc := 118) (lv' := [(6, .int x6), (8, .int (0 : Int32)), (0, .ref (q 73)), (2, .ref (q program)), (3, .int r1), (4, .int x1), (5, .int y1), (7, .int y3)]) dX6_fewest_118 (Nat.le_of_ble_eq_true rfl) rfl ?_
              refine g_iinc (pc := 120) (j := 7) (1) (lf := fun x7 => [(7, .int x7), (6, .int x6), (8, .int (0 : Int32)), (0, .ref (q 73)), (2, .ref (q program)), (3, .int r1), (4, .int x1), (5, .int y1)]) dX6_fewest_120 rfl (by decide) (Nat.le_of_ble_eq_true rfl) (fun _ => rfl) (fun x7 => ?_)
              refine g_goto (pc := 123) 54 dX6_fewest_123 (by decide) ?_
              exact g_sub [3, 4, 5, 6, 7, 1, 0] rfl (ih54 (y1, x6, x7, s3))
            · refine g_iconst (pc := 81) (1) dX6_fewest_81 (by decide) ?_
              refine g_goto (pc := 82) 86 dX6_fewest_82 (by decide) ?_
              refine g_istore (pc := 86) (lv' := [(8, .int (1 : Int32)), (0, .ref (q 73)), (2, .ref (q program)), (3, .int r1), (4, .int x1), (5, .int y1), (6, .int y2), (7, .int y3)]) dX6_fewest_86 (Nat.le_of_ble_eq_true rfl) rfl ?_
              refine g_iload (pc := 88) 0 dX6_fewest_88 rfl ?_
              refine g_ifeq_n (pc := 90) 112 (by decide) dX6_fewest_90 (by decide) ?_
              refine g_aload_n (pc := 93) 1 dX6_fewest_93 rfl rfl ?_
              refine g_aload_n (pc := 94) 2 dX6_fewest_94 rfl rfl ?_
              refine g_aload_n (pc := 95) 2 dX6_fewest_95 rfl rfl ?_
              refine gf_4_hushed (pc := 96) hprogram kf_X6_50 dX6_fewest_96 ?_
              refine g_iload (pc := 99) 6 dX6_fewest_99 rfl ?_
              refine g_ior (pc := 101) dX6_fewest_101 ?_
              refine gV_e (pc := 102) [.ref (q program), .int ((s3.1 program 6) ||| y2)] [] (m_X6_isAlike l D cy q s3 program ((s3.1 program 6) ||| y2) hprogram) cw_X6_isAlike km_X6_54 ⟨rfl, rfl, by decide, by decide⟩ (Nat.le_of_ble_eq_true rfl) (eX_6 (cy := cy) (s3.1 73) (s3.2 73)) rfl dX6_fewest_102 rfl rfl (Nat.le_of_ble_eq_true rfl) (fun r7 s5 => ?_)
              refine g_if_eq (pc := 105) 112 dX6_fewest_105 (by decide) ?_ ?_
              · refine g_iload (pc := 112) 6 dX6_fewest_112 rfl ?_
                refine g_iload_n (pc := 114) 3 dX6_fewest_114 rfl rfl ?_
                refine g_isub (pc := 115) dX6_fewest_115 ?_
                refine g_iload_n (pc := 116) 3 dX6_fewest_116 rfl rfl ?_
                refine g_iand (pc := 117) dX6_fewest_117 ?_
                refine g_nmi (fun x8 => ?_)
                refine g_istore (pc := 118) (lv' := [(6, .int x8), (8, .int (1 : Int32)), (0, .ref (q 73)), (2, .ref (q program)), (3, .int r1), (4, .int x1), (5, .int y1), (7, .int y3)]) dX6_fewest_118 (Nat.le_of_ble_eq_true rfl) rfl ?_
                refine g_iinc (pc := 120) (j := 7) (1) (lf := fun x9 => [(7, .int x9), (6, .int x8), (8, .int (1 : Int32)), (0, .ref (q 73)), (2, .ref (q program)), (3, .int r1), (4, .int x1), (5, .int y1)]) dX6_fewest_120 rfl (by decide) (Nat.le_of_ble_eq_true rfl) (fun _ => rfl) (fun x9 => ?_)
                refine g_goto (pc := 123) 54 dX6_fewest_123 (by decide) ?_
                exact g_sub [3, 4, 5, 6, 7, 1, 0] rfl (ih54 (y1, x8, x9, s5))
              · refine g_iload (pc := 108) 6 dX6_fewest_108 rfl ?_
                refine g_istore (pc := 110) (lv' := [(5, .int y2), (8, .int (1 : Int32)), (0, .ref (q 73)), (2, .ref (q program)), (3, .int r1), (4, .int x1), (6, .int y2), (7, .int y3)]) dX6_fewest_110 (Nat.le_of_ble_eq_true rfl) rfl ?_
                refine g_iload (pc := 112) 6 dX6_fewest_112 rfl ?_
                refine g_iload_n (pc := 114) 4 dX6_fewest_114 rfl rfl ?_
                refine g_isub (pc := 115) dX6_fewest_115 ?_
                refine g_iload_n (pc := 116) 4 dX6_fewest_116 rfl rfl ?_
                refine g_iand (pc := 117) dX6_fewest_117 ?_
                refine g_nmi (fun x10 => ?_)
                refine g_istore (pc := 118) (lv' := [(6, .int x10), (5, .int y2), (8, .int (1 : Int32)), (0, .ref (q 73)), (2, .ref (q program)), (3, .int r1), (4, .int x1), (7, .int y3)]) dX6_fewest_118 (Nat.le_of_ble_eq_true rfl) rfl ?_
                refine g_iinc (pc := 120) (j := 7) (1) (lf := fun x11 => [(7, .int x11), (6, .int x10), (5, .int y2), (8, .int (1 : Int32)), (0, .ref (q 73)), (2, .ref (q program)), (3, .int r1), (4, .int x1)]) dX6_fewest_120 rfl (by decide) (Nat.le_of_ble_eq_true rfl) (fun _ => rfl) (fun x11 => ?_)
                refine g_goto (pc := 123) 54 dX6_fewest_123 (by decide) ?_
                exact g_sub [4, 5, 6, 7, 2, 1, 0] rfl (ih54 (y2, x10, x11, s5))
    · refine g_iconst (pc := 42) (0) dX6_fewest_42 (by decide) ?_
      exact g_iret (pc := 43) (hro _) rfl dX6_fewest_43
  · refine g_bipush (pc := 26) (-6) dX6_fewest_26 (by decide) ?_
    exact g_iret (pc := 28) (hro _) rfl dX6_fewest_28
def b_J7_fill_53178_5 (p0 : Nat) (n_p0 : Nat) (p1 : Int32) (x1 : Int32) : (Int32 × St) → Option ((Int32 × St) ⊕ (St)) := un fun y1 s1 => (if x1 ≤ y1 then some (.inr s1) else chk (inb y1 n_p0) (nm (stI s1 p0 y1.toNatClampNeg p1) fun s2 => nm (y1 + (1 : Int32)) fun x2 => some (.inl (x2, s2))))
def f_J7_fill_53178 (p0 : Nat) (n_p0 : Nat) (p1 : Int32) (σ : St) : Option (St) := nm (Int32.ofNat n_p0) fun x1 => (wh FU (b_J7_fill_53178_5 p0 n_p0 p1 x1) ((0 : Int32), σ)).bind (fun s3 => some s3)
abbrev rm_J7_fill_53178 : Room := { frames := 0, cells := 0, slots := 0, locals := 0 }
set_option maxHeartbeats 4000000 in
set_option maxRecDepth 20000 in
theorem m_J7_fill_53178 (l : Launch) (v : Vw) (σ : St) (p0 : Nat) (n_p0 : Nat) (p1 : Int32) (hp0 : IA v p0 n_p0) : ∀ res, f_J7_fill_53178 p0 n_p0 p1 σ = some res → MetX v l yJ7_fill_53178 cJ7_fill_53178 4 none rm_J7_fill_53178 [.ref ((vq v) p0), .int p1] σ (none, res) := by
  let fin_ : St → Option Value × St := fun r => (none, r)
  have hro : ∀ (z : St) (res : St), some z = some res → fin_ res = fin_ z := fun z res h => by cases h; rfl
  refine MetX.of1 (fin := fin_) (lv := [(0, .ref ((vq v) p0)), (1, .int p1)]) (by decide) (Nat.le_of_ble_eq_true rfl) rfl ?_
  unfold f_J7_fill_53178
  refine g_iconst (pc := 0) (0) dJ7_fill_53178_0 (by decide) ?_
  refine g_istore_n (pc := 1) (lv' := [(2, .int (0 : Int32)), (0, .ref ((vq v) p0)), (1, .int p1)]) dJ7_fill_53178_1 rfl (Nat.le_of_ble_eq_true rfl) rfl ?_
  refine g_aload_n (pc := 2) 1 dJ7_fill_53178_2 rfl rfl ?_
  refine a_ilen (pc := 3) hp0 dJ7_fill_53178_3 ?_
  refine g_nmi (fun x1 => ?_)
  refine g_istore_n (pc := 4) (lv' := [(3, .int x1), (2, .int (0 : Int32)), (0, .ref ((vq v) p0)), (1, .int p1)]) dJ7_fill_53178_4 rfl (Nat.le_of_ble_eq_true rfl) rfl ?_
  refine g_sub [2, 3, 1, 0] rfl ?_
  refine g_wh2 (pc := 5) (s0 := ((0 : Int32), σ)) (fun (w_ : Int32 × St) => w_.2) (fun (w_ : Int32 × St) => [(0, .ref ((vq v) p0)), (1, .int p1), (2, .int w_.1), (3, .int x1)]) (fun (w_ : St) => w_) (fun (w_ : St) => []) 20 ?_ ?_
  · rintro s3
    try dsimp only [un, Sum.elim_inl]
    exact g_vret (pc := 20) (hro _) rfl dJ7_fill_53178_20
  · intro K5 hx5 ih5
    rintro ⟨y1, s1⟩
    try dsimp only [b_J7_fill_53178_5, un]
    refine g_iload_n (pc := 5) 2 dJ7_fill_53178_5 rfl rfl ?_
    refine g_iload_n (pc := 6) 3 dJ7_fill_53178_6 rfl rfl ?_
    refine g_icmp_ge (pc := 7) 20 dJ7_fill_53178_7 (by decide) ?_ ?_
    · exact g_sub [] rfl (hx5 s1)
    · refine g_aload_n (pc := 10) 0 dJ7_fill_53178_10 rfl rfl ?_
      refine g_iload_n (pc := 11) 2 dJ7_fill_53178_11 rfl rfl ?_
      refine g_iload_n (pc := 12) 1 dJ7_fill_53178_12 rfl rfl ?_
      refine a_ist (pc := 13) hp0 dJ7_fill_53178_13 (fun s2 => ?_)
      refine g_iinc (pc := 14) (j := 2) (1) (lf := fun x2 => [(2, .int x2), (0, .ref ((vq v) p0)), (1, .int p1), (3, .int x1)]) dJ7_fill_53178_14 rfl (by decide) (Nat.le_of_ble_eq_true rfl) (fun _ => rfl) (fun x2 => ?_)
      refine g_goto (pc := 17) 5 dJ7_fill_53178_17 (by decide) ?_
      exact g_sub [1, 2, 0, 3] rfl (ih5 (x2, s2))
def f_X7_standAt (one : Int32) (two : Int32) (σ : St) : Option (Int32 × St) := chk (nz (256 : Int32)) (chk (nz (256 : Int32)) (nm (((one / (256 : Int32)) * (13 : Int32)) + (two / (256 : Int32))) fun x1 => chk (inb x1 169) (nm (stI σ 80 x1.toNatClampNeg (1 : Int32)) fun s1 => chk (inb x1 169) ((f_X1_shapeOf one two s1).bind fun r1 => chk (inb x1 169) (nm (stI s1 79 x1.toNatClampNeg ((s1.1 79 x1.toNatClampNeg) &&& r1)) fun s2 => some (x1, s2))))))
abbrev rm_X7_standAt : Room := { frames := 1, cells := 0, slots := 0, locals := 26 }
set_option maxHeartbeats 4000000 in
set_option maxRecDepth 20000 in
theorem m_X7_standAt (l : Launch) (D : va_G) (cy : Cy) (q : Nat → Nat) (σ : St) (one : Int32) (two : Int32)  : ∀ res, f_X7_standAt one two σ = some res → MetX (vX D cy q) l yX7_standAt cX7_standAt 4 (some .int) rm_X7_standAt [.ref (q 76), .int one, .int two] σ (some (.int res.1), res.2) := by
  let fin_ : (Int32 × St) → Option Value × St := fun r => (some (.int r.1), r.2)
  have hro : ∀ (z : Int32 × St) (res : Int32 × St), some z = some res → fin_ res = fin_ z := fun z res h => by cases h; rfl
  refine MetX.of1 (fin := fin_) (lv := [(0, .ref (q 76)), (1, .int one), (2, .int two)]) (by decide) (Nat.le_of_ble_eq_true rfl) rfl ?_
  unfold f_X7_standAt
  refine g_iload_n (pc := 0) 1 dX7_standAt_0 rfl rfl ?_
  refine g_sipush (pc := 1) (256) dX7_standAt_1 (by decide) ?_
  refine g_idiv (pc := 4) dX7_standAt_4 ?_
  refine g_bipush (pc := 5) (13) dX7_standAt_5 (by decide) ?_
  refine g_imul (pc := 7) dX7_standAt_7 ?_
  refine g_iload_n (pc := 8) 2 dX7_standAt_8 rfl rfl ?_
  refine g_sipush (pc := 9) (256) dX7_standAt_9 (by decide) ?_
  refine g_idiv (pc := 12) dX7_standAt_12 ?_
  refine g_iadd (pc := 13) dX7_standAt_13 ?_
  refine g_nmi (fun x1 => ?_)
  refine g_istore_n (pc := 14) (lv' := [(3, .int x1), (0, .ref (q 76)), (1, .int one), (2, .int two)]) dX7_standAt_14 rfl (Nat.le_of_ble_eq_true rfl) rfl ?_
  refine g_aload_n (pc := 15) 1 dX7_standAt_15 rfl rfl ?_
  refine gf_7_stood (pc := 16) kf_X7_29 dX7_standAt_16 ?_
  refine g_iload_n (pc := 19) 0 dX7_standAt_19 rfl rfl ?_
  refine g_iconst (pc := 20) (1) dX7_standAt_20 (by decide) ?_
  refine a_ist (pc := 21) aX_7_stood dX7_standAt_21 (fun s1 => ?_)
  refine g_aload_n (pc := 22) 1 dX7_standAt_22 rfl rfl ?_
  refine gf_7_shapes (pc := 23) kf_X7_26 dX7_standAt_23 ?_
  refine g_iload_n (pc := 26) 0 dX7_standAt_26 rfl rfl ?_
  refine g_dup2 (pc := 27) dX7_standAt_27 rfl rfl ?_
  refine a_ild (pc := 28) aX_7_shapes dX7_standAt_28 ?_
  refine g_aload_n (pc := 29) 1 dX7_standAt_29 rfl rfl ?_
  refine gf_7_forms (pc := 30) kf_X7_9 dX7_standAt_30 ?_
  refine g_iload_n (pc := 33) 2 dX7_standAt_33 rfl rfl ?_
  refine g_iload_n (pc := 34) 3 dX7_standAt_34 rfl rfl ?_
  refine gV_i (pc := 35) [.int one, .int two] [.int (s1.1 79 x1.toNatClampNeg), .int x1, .ref (q 79)] (m_X1_shapeOf l D cy q s1 one two) cw_X1_shapeOf km_X7_85 ⟨rfl, rfl, by decide, by decide⟩ (Nat.le_of_ble_eq_true rfl) (eX_1 (cy := cy) (s1.1 0) (s1.2 0)) rfl dX7_standAt_35 rfl rfl (Nat.le_of_ble_eq_true rfl) (fun r1 => ?_)
  refine g_iand (pc := 38) dX7_standAt_38 ?_
  refine a_ist (pc := 39) aX_7_shapes dX7_standAt_39 (fun s2 => ?_)
  refine g_iload_n (pc := 40) 0 dX7_standAt_40 rfl rfl ?_
  exact g_iret (pc := 41) (hro _) rfl dX7_standAt_41
def b_X7_walkPair_16 (p : Nat) (q_ : Nat) : (Int32 × Int32 × Int32 × St) → Option ((Int32 × Int32 × Int32 × St) ⊕ ((St) ⊕ (Int32 × St))) := un fun y1 => un fun y2 => un fun y3 s1 => (if (48 : Int32) < y3 then some (.inr (.inl s1)) else chk (inb y1 6400) (chk (inb y2 6400) ((f_X7_standAt (s1.1 (p + 6) y1.toNatClampNeg) (s1.1 (q_ + 6) y2.toNatClampNeg) s1).bind (un fun r1 s2 => (if r1 = (168 : Int32) then some (.inr (.inr (y3, s2))) else chk (inb r1 169) ((if (s2.1 77 r1.toNatClampNeg) = (2 : Int32) then nm (y1 + (0 : Int32)) fun x8 => chk (inb r1 169) ((if (s2.1 77 r1.toNatClampNeg) = (1 : Int32) then nm (y2 + (0 : Int32)) fun x11 => nm (y3 + (1 : Int32)) fun x12 => some (.inl (x8, x11, x12, s2)) else nm (y2 + (1 : Int32)) fun x9 => nm (y3 + (1 : Int32)) fun x10 => some (.inl (x8, x9, x10, s2)))) else nm (y1 + (1 : Int32)) fun x3 => chk (inb r1 169) ((if (s2.1 77 r1.toNatClampNeg) = (1 : Int32) then nm (y2 + (0 : Int32)) fun x6 => nm (y3 + (1 : Int32)) fun x7 => some (.inl (x3, x6, x7, s2)) else nm (y2 + (1 : Int32)) fun x4 => nm (y3 + (1 : Int32)) fun x5 => some (.inl (x3, x4, x5, s2)))))))))))
def f_X7_walkPair (p : Nat) (start : Int32) (q_ : Nat) (other : Int32) (σ : St) : Option (Int32 × St) := nm (start * (25 : Int32)) fun x1 => nm (other * (25 : Int32)) fun x2 => (wh FU (b_X7_walkPair_16 p q_) (x1, x2, (0 : Int32), σ)).bind (Sum.elim (fun s3 => some ((48 : Int32), s3)) (fun z => some z))
abbrev rm_X7_walkPair : Room := { frames := 2, cells := 0, slots := 0, locals := 49 }
set_option maxHeartbeats 4000000 in
set_option maxRecDepth 20000 in
theorem m_X7_walkPair (l : Launch) (D : va_G) (cy : Cy) (q : Nat → Nat) (σ : St) (p : Nat) (start : Int32) (q_ : Nat) (other : Int32) (hp : isP p) (hq_ : isP q_) : ∀ res, f_X7_walkPair p start q_ other σ = some res → MetX (vX D cy q) l yX7_walkPair cX7_walkPair 9 (some .int) rm_X7_walkPair [.ref (q 76), .ref (q p), .int start, .ref (q q_), .int other] σ (some (.int res.1), res.2) := by
  let fin_ : (Int32 × St) → Option Value × St := fun r => (some (.int r.1), r.2)
  have hro : ∀ (z : Int32 × St) (res : Int32 × St), some z = some res → fin_ res = fin_ z := fun z res h => by cases h; rfl
  refine MetX.of1 (fin := fin_) (lv := [(0, .ref (q 76)), (1, .ref (q p)), (2, .int start), (3, .ref (q q_)), (4, .int other)]) (by decide) (Nat.le_of_ble_eq_true rfl) rfl ?_
  unfold f_X7_walkPair
  refine g_iload_n (pc := 0) 2 dX7_walkPair_0 rfl rfl ?_
  refine g_bipush (pc := 1) (25) dX7_walkPair_1 (by decide) ?_
  refine g_imul (pc := 3) dX7_walkPair_3 ?_
  refine g_nmi (fun x1 => ?_)
  refine g_istore (pc := 4) (lv' := [(5, .int x1), (0, .ref (q 76)), (1, .ref (q p)), (2, .int start), (3, .ref (q q_)), (4, .int other)]) dX7_walkPair_4 (Nat.le_of_ble_eq_true rfl) rfl ?_
  refine g_iload (pc := 6) 5 dX7_walkPair_6 rfl ?_
  refine g_bipush (pc := 8) (25) dX7_walkPair_8 (by decide) ?_
  refine g_imul (pc := 10) dX7_walkPair_10 ?_
  refine g_nmi (fun x2 => ?_)
  refine g_istore (pc := 11) (lv' := [(6, .int x2), (5, .int x1), (0, .ref (q 76)), (1, .ref (q p)), (2, .int start), (3, .ref (q q_)), (4, .int other)]) dX7_walkPair_11 (Nat.le_of_ble_eq_true rfl) rfl ?_
  refine g_iconst (pc := 13) (0) dX7_walkPair_13 (by decide) ?_
  refine g_istore (pc := 14) (lv' := [(7, .int (0 : Int32)), (6, .int x2), (5, .int x1), (0, .ref (q 76)), (1, .ref (q p)), (2, .int start), (3, .ref (q q_)), (4, .int other)]) dX7_walkPair_14 (Nat.le_of_ble_eq_true rfl) rfl ?_
  refine g_sub [3, 4, 6, 2, 1, 0] rfl ?_
  refine g_whr (pc := 16) (s0 := (x1, x2, (0 : Int32), σ)) fin_ (fun (w_ : Int32 × Int32 × Int32 × St) => w_.2.2.2) (fun (w_ : Int32 × Int32 × Int32 × St) => [(0, .ref (q 76)), (1, .ref (q p)), (3, .ref (q q_)), (5, .int w_.1), (6, .int w_.2.1), (7, .int w_.2.2.1)]) (fun (w_ : St) => w_) (fun (w_ : St) => []) 102 (fun z => z) (fun _ => rfl) hro ?_ ?_
  · rintro s3
    try dsimp only [un, Sum.elim_inl]
    refine g_bipush (pc := 102) (48) dX7_walkPair_102 (by decide) ?_
    exact g_iret (pc := 104) (hro _) rfl dX7_walkPair_104
  · intro K16 hr16 hx16 ih16
    rintro ⟨y1, y2, y3, s1⟩
    try dsimp only [b_X7_walkPair_16, un]
    refine g_iload (pc := 16) 5 dX7_walkPair_16 rfl ?_
    refine g_bipush (pc := 18) (48) dX7_walkPair_18 (by decide) ?_
    refine g_icmp_gt (pc := 20) 102 dX7_walkPair_20 (by decide) ?_ ?_
    · exact g_sub [] rfl (hx16 s1)
    · refine g_aload_n (pc := 23) 0 dX7_walkPair_23 rfl rfl ?_
      refine g_aload_n (pc := 24) 1 dX7_walkPair_24 rfl rfl ?_
      refine gf_4_states (pc := 25) hp kf_X7_79 dX7_walkPair_25 ?_
      refine g_iload (pc := 28) 3 dX7_walkPair_28 rfl ?_
      refine a_ild (pc := 30) (aX_4_states hp) dX7_walkPair_30 ?_
      refine g_aload_n (pc := 31) 2 dX7_walkPair_31 rfl rfl ?_
      refine gf_4_states (pc := 32) hq_ kf_X7_79 dX7_walkPair_32 ?_
      refine g_iload (pc := 35) 4 dX7_walkPair_35 rfl ?_
      refine a_ild (pc := 37) (aX_4_states hq_) dX7_walkPair_37 ?_
      refine gV_e (pc := 38) [.int (s1.1 (p + 6) y1.toNatClampNeg), .int (s1.1 (q_ + 6) y2.toNatClampNeg)] [] (m_X7_standAt l D cy q s1 (s1.1 (p + 6) y1.toNatClampNeg) (s1.1 (q_ + 6) y2.toNatClampNeg)) cw_X7_standAt km_X7_82 ⟨rfl, rfl, by decide, by decide⟩ (Nat.le_of_ble_eq_true rfl) (eX_7 (cy := cy) (s1.1 76) (s1.2 76)) rfl dX7_walkPair_38 rfl rfl (Nat.le_of_ble_eq_true rfl) (fun r1 s2 => ?_)
      refine g_istore (pc := 41) (lv' := [(8, .int r1), (0, .ref (q 76)), (1, .ref (q p)), (3, .ref (q q_)), (5, .int y1), (6, .int y2), (7, .int y3)]) dX7_walkPair_41 (Nat.le_of_ble_eq_true rfl) rfl ?_
      refine g_iload (pc := 43) 0 dX7_walkPair_43 rfl ?_
      refine g_sipush (pc := 45) (168) dX7_walkPair_45 (by decide) ?_
      refine g_icmp_ne (pc := 48) 54 dX7_walkPair_48 (by decide) ?_ ?_
      · refine g_iload (pc := 54) 4 dX7_walkPair_54 rfl ?_
        refine g_aload_n (pc := 56) 1 dX7_walkPair_56 rfl rfl ?_
        refine gf_7_waits (pc := 57) kf_X7_19 dX7_walkPair_57 ?_
        refine g_iload (pc := 60) 0 dX7_walkPair_60 rfl ?_
        refine a_ild (pc := 62) aX_7_waits dX7_walkPair_62 ?_
        refine g_iconst (pc := 63) (2) dX7_walkPair_63 (by decide) ?_
        refine g_icmp_ne (pc := 64) 71 dX7_walkPair_64 (by decide) ?_ ?_
        · refine g_iconst (pc := 71) (1) dX7_walkPair_71 (by decide) ?_
          refine g_iadd (pc := 72) dX7_walkPair_72 ?_
          refine g_nmi (fun x3 => ?_)
          refine g_istore (pc := 73) (lv' := [(5, .int x3), (8, .int r1), (0, .ref (q 76)), (1, .ref (q p)), (3, .ref (q q_)), (6, .int y2), (7, .int y3)]) dX7_walkPair_73 (Nat.le_of_ble_eq_true rfl) rfl ?_
          refine g_iload (pc := 75) 5 dX7_walkPair_75 rfl ?_
          refine g_aload_n (pc := 77) 2 dX7_walkPair_77 rfl rfl ?_
          refine gf_7_waits (pc := 78) kf_X7_19 dX7_walkPair_78 ?_
          refine g_iload (pc := 81) 1 dX7_walkPair_81 rfl ?_
          refine a_ild (pc := 83) aX_7_waits dX7_walkPair_83 ?_
          refine g_iconst (pc := 84) (1) dX7_walkPair_84 (by decide) ?_
          refine g_icmp_ne (pc := 85) 92 dX7_walkPair_85 (by decide) ?_ ?_
          · refine g_iconst (pc := 92) (1) dX7_walkPair_92 (by decide) ?_
            refine g_iadd (pc := 93) dX7_walkPair_93 ?_
            refine g_nmi (fun x4 => ?_)
            refine g_istore (pc := 94) (lv' := [(6, .int x4), (5, .int x3), (8, .int r1), (0, .ref (q 76)), (1, .ref (q p)), (3, .ref (q q_)), (7, .int y3)]) dX7_walkPair_94 (Nat.le_of_ble_eq_true rfl) rfl ?_
            refine g_iinc (pc := 96) (j := 6) (1) (lf := fun x5 => [(7, .int x5), (6, .int x4), (5, .int x3), (8, .int r1), (0, .ref (q 76)), (1, .ref (q p)), (3, .ref (q q_))]) dX7_walkPair_96 rfl (by decide) (Nat.le_of_ble_eq_true rfl) (fun _ => rfl) (fun x5 => ?_)
            refine g_goto (pc := 99) 16 dX7_walkPair_99 (by decide) ?_
            exact g_sub [4, 5, 6, 2, 1, 0] rfl (ih16 (x3, x4, x5, s2))
          · refine g_iconst (pc := 88) (0) dX7_walkPair_88 (by decide) ?_
            refine g_goto (pc := 89) 93 dX7_walkPair_89 (by decide) ?_
            refine g_iadd (pc := 93) dX7_walkPair_93 ?_
            refine g_nmi (fun x6 => ?_)
            refine g_istore (pc := 94) (lv' := [(6, .int x6), (5, .int x3), (8, .int r1), (0, .ref (q 76)), (1, .ref (q p)), (3, .ref (q q_)), (7, .int y3)]) dX7_walkPair_94 (Nat.le_of_ble_eq_true rfl) rfl ?_
            refine g_iinc (pc := 96) (j := 6) (1) (lf := fun x7 => [(7, .int x7), (6, .int x6), (5, .int x3), (8, .int r1), (0, .ref (q 76)), (1, .ref (q p)), (3, .ref (q q_))]) dX7_walkPair_96 rfl (by decide) (Nat.le_of_ble_eq_true rfl) (fun _ => rfl) (fun x7 => ?_)
            refine g_goto (pc := 99) 16 dX7_walkPair_99 (by decide) ?_
            exact g_sub [4, 5, 6, 2, 1, 0] rfl (ih16 (x3, x6, x7, s2))
        · refine g_iconst (pc := 67) (0) dX7_walkPair_67 (by decide) ?_
          refine g_goto (pc := 68) 72 dX7_walkPair_68 (by decide) ?_
          refine g_iadd (pc := 72) dX7_walkPair_72 ?_
          refine g_nmi (fun x8 => ?_)
          refine g_istore (pc := 73) (lv' := [(5, .int x8), (8, .int r1), (0, .ref (q 76)), (1, .ref (q p)), (3, .ref (q q_)), (6, .int y2), (7, .int y3)]) dX7_walkPair_73 (Nat.le_of_ble_eq_true rfl) rfl ?_
          refine g_iload (pc := 75) 5 dX7_walkPair_75 rfl ?_
          refine g_aload_n (pc := 77) 2 dX7_walkPair_77 rfl rfl ?_
          refine gf_7_waits (pc := 78) kf_X7_19 dX7_walkPair_78 ?_
          refine g_iload (pc := 81) 1 dX7_walkPair_81 rfl ?_
          refine a_ild (pc := 83) aX_7_waits dX7_walkPair_83 ?_
          refine g_iconst (pc := 84) (1) dX7_walkPair_84 (by decide) ?_
          refine g_icmp_ne (pc := 85) 92 dX7_walkPair_85 (by decide) ?_ ?_
          · refine g_iconst (pc := 92) (1) dX7_walkPair_92 (by decide) ?_
            refine g_iadd (pc := 93) dX7_walkPair_93 ?_
            refine g_nmi (fun x9 => ?_)
            refine g_istore (pc := 94) (lv' := [(6, .int x9), (5, .int x8), (8, .int r1), (0, .ref (q 76)), (1, .ref (q p)), (3, .ref (q q_)), (7, .int y3)]) dX7_walkPair_94 (Nat.le_of_ble_eq_true rfl) rfl ?_
            refine g_iinc (pc := 96) (j := 6) (1) (lf := fun x10 => [(7, .int x10), (6, .int x9), (5, .int x8), (8, .int r1), (0, .ref (q 76)), (1, .ref (q p)), (3, .ref (q q_))]) dX7_walkPair_96 rfl (by decide) (Nat.le_of_ble_eq_true rfl) (fun _ => rfl) (fun x10 => ?_)
            refine g_goto (pc := 99) 16 dX7_walkPair_99 (by decide) ?_
            exact g_sub [4, 5, 6, 2, 1, 0] rfl (ih16 (x8, x9, x10, s2))
          · refine g_iconst (pc := 88) (0) dX7_walkPair_88 (by decide) ?_
            refine g_goto (pc := 89) 93 dX7_walkPair_89 (by decide) ?_
            refine g_iadd (pc := 93) dX7_walkPair_93 ?_
            refine g_nmi (fun x11 => ?_)
            refine g_istore (pc := 94) (lv' := [(6, .int x11), (5, .int x8), (8, .int r1), (0, .ref (q 76)), (1, .ref (q p)), (3, .ref (q q_)), (7, .int y3)]) dX7_walkPair_94 (Nat.le_of_ble_eq_true rfl) rfl ?_
            refine g_iinc (pc := 96) (j := 6) (1) (lf := fun x12 => [(7, .int x12), (6, .int x11), (5, .int x8), (8, .int r1), (0, .ref (q 76)), (1, .ref (q p)), (3, .ref (q q_))]) dX7_walkPair_96 rfl (by decide) (Nat.le_of_ble_eq_true rfl) (fun _ => rfl) (fun x12 => ?_)
            refine g_goto (pc := 99) 16 dX7_walkPair_99 (by decide) ?_
            exact g_sub [4, 5, 6, 2, 1, 0] rfl (ih16 (x8, x11, x12, s2))
      · refine g_iload (pc := 51) 6 dX7_walkPair_51 rfl ?_
        exact g_iret (pc := 53) (hr16 _) rfl dX7_walkPair_53
