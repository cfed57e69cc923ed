def f_X5_isLetter (sign : Int32) : Option (Int32) := (if sign < (97 : Int32) then some (0 : Int32) else (if (100 : Int32) < sign then some (0 : Int32) else some (1 : Int32)))
abbrev rm_X5_isLetter : Room := { frames := 0, cells := 0, slots := 0, locals := 0 }
set_option maxHeartbeats 4000000 in
set_option maxRecDepth 20000 in
theorem m_X5_isLetter (l : Launch) (D : va_G) (cy : Cy) (q : Nat → Nat) (σ : St) (sign : Int32)  : ∀ res, f_X5_isLetter sign = some res → MetX (vX D cy q) l yX5_isLetter cX5_isLetter 1 (some .boolean) rm_X5_isLetter [.int sign] σ (some (.int res), σ) := by
  let fin_ : Int32 → Option Value × St := fun r => (some (.int r), σ)
  have hro : ∀ (z : Int32) (res : Int32), some z = some res → fin_ res = fin_ z := fun z res h => by cases h; rfl
  refine MetX.of1 (fin := fin_) (lv := [(0, .int sign)]) (by decide) (Nat.le_of_ble_eq_true rfl) rfl ?_
  unfold f_X5_isLetter
  refine g_iload_n (pc := 0) 0 dX5_isLetter_0 rfl rfl ?_
  refine g_bipush (pc := 1) (97) dX5_isLetter_1 (by decide) ?_
  refine g_icmp_lt (pc := 3) 16 dX5_isLetter_3 (by decide) ?_ ?_
  · refine g_iconst (pc := 16) (0) dX5_isLetter_16 (by decide) ?_
    exact g_zret (pc := 17) rfl (hro _) rfl dX5_isLetter_17
  · refine g_iload_n (pc := 6) 0 dX5_isLetter_6 rfl rfl ?_
    refine g_bipush (pc := 7) (100) dX5_isLetter_7 (by decide) ?_
    refine g_icmp_gt (pc := 9) 16 dX5_isLetter_9 (by decide) ?_ ?_
    · refine g_iconst (pc := 16) (0) dX5_isLetter_16 (by decide) ?_
      exact g_zret (pc := 17) rfl (hro _) rfl dX5_isLetter_17
    · refine g_iconst (pc := 12) (1) dX5_isLetter_12 (by decide) ?_
      refine g_goto (pc := 13) 17 dX5_isLetter_13 (by decide) ?_
      exact g_zret (pc := 17) rfl (hro _) rfl dX5_isLetter_17
def f_X8_valueOf (memory : Int32) (variable_ : Int32) : Option (Int32) := some ((memory >>> (((6 : Int32) - ((2 : Int32) * variable_)) &&& 31)) &&& (3 : Int32))
abbrev rm_X8_valueOf : Room := { frames := 0, cells := 0, slots := 0, locals := 0 }
set_option maxHeartbeats 4000000 in
set_option maxRecDepth 20000 in
theorem m_X8_valueOf (l : Launch) (v : Vw) (σ : St) (memory : Int32) (variable_ : Int32)  : ∀ res, f_X8_valueOf memory variable_ = some res → MetX v l yX8_valueOf cX8_valueOf 2 (some .int) rm_X8_valueOf [.int memory, .int variable_] σ (some (.int res), σ) := by
  let fin_ : Int32 → Option Value × St := fun r => (some (.int r), σ)
  have hro : ∀ (z : Int32) (res : Int32), some z = some res → fin_ res = fin_ z := fun z res h => by cases h; rfl
  refine MetX.of1 (fin := fin_) (lv := [(0, .int memory), (1, .int variable_)]) (by decide) (Nat.le_of_ble_eq_true rfl) rfl ?_
  unfold f_X8_valueOf
  refine g_iload_n (pc := 0) 0 dX8_valueOf_0 rfl rfl ?_
  refine g_bipush (pc := 1) (6) dX8_valueOf_1 (by decide) ?_
  refine g_iconst (pc := 3) (2) dX8_valueOf_3 (by decide) ?_
  refine g_iload_n (pc := 4) 1 dX8_valueOf_4 rfl rfl ?_
  refine g_imul (pc := 5) dX8_valueOf_5 ?_
  refine g_isub (pc := 6) dX8_valueOf_6 ?_
  refine g_ishr (pc := 7) dX8_valueOf_7 ?_
  refine g_iconst (pc := 8) (3) dX8_valueOf_8 (by decide) ?_
  refine g_iand (pc := 9) dX8_valueOf_9 ?_
  exact g_iret (pc := 10) (hro _) rfl dX8_valueOf_10
def f_X5_deniedBy (sign : Int32) (value : Int32) : Option (Int32) := nm (((1 : Int32) <<< (value &&& 31)) - (1 : Int32)) fun x1 => nm ((1 : Int32) <<< (value &&& 31)) fun x2 => (if sign = (60 : Int32) then some (x1 ||| x2) else (if sign = (61 : Int32) then some ((15 : Int32) &&& (x2 ^^^ (-1 : Int32))) else (if sign = (62 : Int32) then some ((15 : Int32) &&& (x1 ^^^ (-1 : Int32))) else some x2)))
abbrev rm_X5_deniedBy : Room := { frames := 0, cells := 0, slots := 0, locals := 0 }
set_option maxHeartbeats 4000000 in
set_option maxRecDepth 20000 in
theorem m_X5_deniedBy (l : Launch) (D : va_G) (cy : Cy) (q : Nat → Nat) (σ : St) (sign : Int32) (value : Int32)  : ∀ res, f_X5_deniedBy sign value = some res → MetX (vX D cy q) l yX5_deniedBy cX5_deniedBy 4 (some .int) rm_X5_deniedBy [.int sign, .int value] σ (some (.int res), σ) := by
  let fin_ : Int32 → Option Value × St := fun r => (some (.int r), σ)
  have hro : ∀ (z : Int32) (res : Int32), some z = some res → fin_ res = fin_ z := fun z res h => by cases h; rfl
  refine MetX.of1 (fin := fin_) (lv := [(0, .int sign), (1, .int value)]) (by decide) (Nat.le_of_ble_eq_true rfl) rfl ?_
  unfold f_X5_deniedBy
  refine g_iconst (pc := 0) (1) dX5_deniedBy_0 (by decide) ?_
  refine g_iload_n (pc := 1) 1 dX5_deniedBy_1 rfl rfl ?_
  refine g_ishl (pc := 2) dX5_deniedBy_2 ?_
  refine g_iconst (pc := 3) (1) dX5_deniedBy_3 (by decide) ?_
  refine g_isub (pc := 4) dX5_deniedBy_4 ?_
  refine g_nmi (fun x1 => ?_)
  refine g_istore_n (pc := 5) (lv' := [(2, .int x1), (0, .int sign), (1, .int value)]) dX5_deniedBy_5 rfl (Nat.le_of_ble_eq_true rfl) rfl ?_
  refine g_iconst (pc := 6) (1) dX5_deniedBy_6 (by decide) ?_
  refine g_iload_n (pc := 7) 2 dX5_deniedBy_7 rfl rfl ?_
  refine g_ishl (pc := 8) dX5_deniedBy_8 ?_
  refine g_nmi (fun x2 => ?_)
  refine g_istore_n (pc := 9) (lv' := [(3, .int x2), (2, .int x1), (0, .int sign), (1, .int value)]) dX5_deniedBy_9 rfl (Nat.le_of_ble_eq_true rfl) rfl ?_
  refine g_iload_n (pc := 10) 2 dX5_deniedBy_10 rfl rfl ?_
  refine g_if (fun c11_0 => ?_) (fun n11_0 => ?_)
  · refine g_tbl (pc := 11) (60) 43 dX5_deniedBy_11 (i32_eq (60) rfl c11_0) (by decide) (by decide) rfl (by decide) ?_
    refine g_iload_n (pc := 43) 1 dX5_deniedBy_43 rfl rfl ?_
    refine g_iload_n (pc := 44) 0 dX5_deniedBy_44 rfl rfl ?_
    refine g_ior (pc := 45) dX5_deniedBy_45 ?_
    exact g_iret (pc := 46) (hro _) rfl dX5_deniedBy_46
  · refine g_if (fun c11_1 => ?_) (fun n11_1 => ?_)
    · refine g_tbl (pc := 11) (61) 36 dX5_deniedBy_11 (i32_eq (61) rfl c11_1) (by decide) (by decide) rfl (by decide) ?_
      refine g_bipush (pc := 36) (15) dX5_deniedBy_36 (by decide) ?_
      refine g_iload_n (pc := 38) 0 dX5_deniedBy_38 rfl rfl ?_
      refine g_iconst (pc := 39) (-1) dX5_deniedBy_39 (by decide) ?_
      refine g_ixor (pc := 40) dX5_deniedBy_40 ?_
      refine g_iand (pc := 41) dX5_deniedBy_41 ?_
      exact g_iret (pc := 42) (hro _) rfl dX5_deniedBy_42
    · refine g_if (fun c11_2 => ?_) (fun n11_2 => ?_)
      · refine g_tbl (pc := 11) (62) 47 dX5_deniedBy_11 (i32_eq (62) rfl c11_2) (by decide) (by decide) rfl (by decide) ?_
        refine g_bipush (pc := 47) (15) dX5_deniedBy_47 (by decide) ?_
        refine g_iload_n (pc := 49) 1 dX5_deniedBy_49 rfl rfl ?_
        refine g_iconst (pc := 50) (-1) dX5_deniedBy_50 (by decide) ?_
        refine g_ixor (pc := 51) dX5_deniedBy_51 ?_
        refine g_iand (pc := 52) dX5_deniedBy_52 ?_
        exact g_iret (pc := 53) (hro _) rfl dX5_deniedBy_53
      · refine g_tblOut (pc := 11) 54 dX5_deniedBy_11 (by have e0 := i32_ne (60) rfl n11_0; have e1 := i32_ne (61) rfl n11_1; have e2 := i32_ne (62) rfl n11_2; omega) (by decide) ?_
        refine g_iload_n (pc := 54) 0 dX5_deniedBy_54 rfl rfl ?_
        exact g_iret (pc := 55) (hro _) rfl dX5_deniedBy_55
def b_X5_deniedFrom_6 (sa : Nat) (to : Int32) (memory : Int32) (σ : St) : (Int32 × Int32) → Option ((Int32 × Int32) ⊕ (Int32)) := un fun y1 y2 => (if to ≤ (y2 + (2 : Int32)) then some (.inr y1) else chk (inb y2 40) ((f_X5_isLetter (σ.1 (sa + 1) y2.toNatClampNeg)).bind fun r1 => (if r1 = (0 : Int32) then chk (inb y2 40) ((f_X5_isLetter (σ.1 (sa + 1) y2.toNatClampNeg)).bind fun r2 => (if r2 = (0 : Int32) then nm (y2 + (2 : Int32)) fun x1 => some (.inl (y1, x1)) else nm (y2 + (4 : Int32)) fun x2 => some (.inl (y1, x2)))) else chk (inb y2 40) ((f_X8_valueOf memory ((σ.1 (sa + 1) y2.toNatClampNeg) - (97 : Int32))).bind fun r3 => chk (inb (y2 + (1 : Int32)) 40) ((f_X5_deniedBy (σ.1 (sa + 1) (y2 + (1 : Int32)).toNatClampNeg) r3).bind fun r4 => chk (inb (y2 + (2 : Int32)) 40) (nm (y1 ||| (r4 <<< (((4 : Int32) * ((σ.1 (sa + 1) (y2 + (2 : Int32)).toNatClampNeg) - (97 : Int32))) &&& 31))) fun x3 => chk (inb y2 40) ((f_X5_isLetter (σ.1 (sa + 1) y2.toNatClampNeg)).bind fun r5 => (if r5 = (0 : Int32) then nm (y2 + (2 : Int32)) fun x4 => some (.inl (x3, x4)) else nm (y2 + (4 : Int32)) fun x5 => some (.inl (x3, x5))))))))))
def f_X5_deniedFrom (sa : Nat) (from_ : Int32) (to : Int32) (memory : Int32) (σ : St) : Option (Int32) := (wh FU (b_X5_deniedFrom_6 sa to memory σ) ((0 : Int32), from_)).bind (fun z1 => some z1)
abbrev rm_X5_deniedFrom : Room := { frames := 1, cells := 0, slots := 0, locals := 23 }
set_option maxHeartbeats 4000000 in
set_option maxRecDepth 20000 in
theorem m_X5_deniedFrom (l : Launch) (D : va_G) (cy : Cy) (q : Nat → Nat) (σ : St) (sa : Nat) (from_ : Int32) (to : Int32) (memory : Int32) (hsa : isS sa) : ∀ res, f_X5_deniedFrom sa from_ to memory σ = some res → MetX (vX D cy q) l yX5_deniedFrom cX5_deniedFrom 7 (some .int) rm_X5_deniedFrom [.ref (q sa), .int from_, .int to, .int memory] σ (some (.int res), σ) := by
  let fin_ : Int32 → Option Value × St := fun r => (some (.int r), σ)
  have hro : ∀ (z : Int32) (res : Int32), some z = some res → fin_ res = fin_ z := fun z res h => by cases h; rfl
  refine MetX.of1 (fin := fin_) (lv := [(0, .ref (q sa)), (1, .int from_), (2, .int to), (3, .int memory)]) (by decide) (Nat.le_of_ble_eq_true rfl) rfl ?_
  unfold f_X5_deniedFrom
  refine g_iconst (pc := 0) (0) dX5_deniedFrom_0 (by decide) ?_
  refine g_istore (pc := 1) (lv' := [(4, .int (0 : Int32)), (0, .ref (q sa)), (1, .int from_), (2, .int to), (3, .int memory)]) dX5_deniedFrom_1 (Nat.le_of_ble_eq_true rfl) rfl ?_
  refine g_iload_n (pc := 3) 2 dX5_deniedFrom_3 rfl rfl ?_
  refine g_istore (pc := 4) (lv' := [(5, .int from_), (4, .int (0 : Int32)), (0, .ref (q sa)), (1, .int from_), (2, .int to), (3, .int memory)]) dX5_deniedFrom_4 (Nat.le_of_ble_eq_true rfl) rfl ?_
  refine g_sub [2, 4, 5, 1, 0] rfl ?_
  refine g_wh2 (pc := 6) (s0 := ((0 : Int32), from_)) (fun (w_ : Int32 × Int32) => σ) (fun (w_ : Int32 × Int32) => [(0, .ref (q sa)), (2, .int to), (3, .int memory), (4, .int w_.1), (5, .int w_.2)]) (fun (w_ : Int32) => σ) (fun (w_ : Int32) => [(4, .int w_)]) 103 ?_ ?_
  · rintro z1
    try dsimp only [un, Sum.elim_inl]
    refine g_iload (pc := 103) 0 dX5_deniedFrom_103 rfl ?_
    exact g_iret (pc := 105) (hro _) rfl dX5_deniedFrom_105
  · intro K6 hx6 ih6
    rintro ⟨y1, y2⟩
    try dsimp only [b_X5_deniedFrom_6, un]
    refine g_iload (pc := 6) 4 dX5_deniedFrom_6 rfl ?_
    refine g_iconst (pc := 8) (2) dX5_deniedFrom_8 (by decide) ?_
    refine g_iadd (pc := 9) dX5_deniedFrom_9 ?_
    refine g_iload_n (pc := 10) 1 dX5_deniedFrom_10 rfl rfl ?_
    refine g_icmp_ge (pc := 11) 103 dX5_deniedFrom_11 (by decide) ?_ ?_
    · exact g_sub [3] rfl (hx6 y1)
    · refine g_aload_n (pc := 14) 0 dX5_deniedFrom_14 rfl rfl ?_
      refine gf_5_signs (pc := 15) hsa kf_X5_9 dX5_deniedFrom_15 ?_
      refine g_iload (pc := 18) 4 dX5_deniedFrom_18 rfl ?_
      refine a_ild (pc := 20) (aX_5_signs hsa) dX5_deniedFrom_20 ?_
      refine gS_i (pc := 21) [.int (σ.1 (sa + 1) y2.toNatClampNeg)] [] (m_X5_isLetter l D cy q σ (σ.1 (sa + 1) y2.toNatClampNeg)) cw_X5_isLetter km_X5_30 ⟨rfl, rfl, by decide, by decide⟩ dX5_deniedFrom_21 rfl rfl (Nat.le_of_ble_eq_true rfl) (fun r1 => ?_)
      refine g_if_eq (pc := 24) 77 dX5_deniedFrom_24 (by decide) ?_ ?_
      · refine g_iload (pc := 77) 4 dX5_deniedFrom_77 rfl ?_
        refine g_aload_n (pc := 79) 0 dX5_deniedFrom_79 rfl rfl ?_
        refine gf_5_signs (pc := 80) hsa kf_X5_9 dX5_deniedFrom_80 ?_
        refine g_iload (pc := 83) 4 dX5_deniedFrom_83 rfl ?_
        refine a_ild (pc := 85) (aX_5_signs hsa) dX5_deniedFrom_85 ?_
        refine gS_i (pc := 86) [.int (σ.1 (sa + 1) y2.toNatClampNeg)] [.int y2] (m_X5_isLetter l D cy q σ (σ.1 (sa + 1) y2.toNatClampNeg)) cw_X5_isLetter km_X5_30 ⟨rfl, rfl, by decide, by decide⟩ dX5_deniedFrom_86 rfl rfl (Nat.le_of_ble_eq_true rfl) (fun r2 => ?_)
        refine g_if_eq (pc := 89) 96 dX5_deniedFrom_89 (by decide) ?_ ?_
        · refine g_iconst (pc := 96) (2) dX5_deniedFrom_96 (by decide) ?_
          refine g_iadd (pc := 97) dX5_deniedFrom_97 ?_
          refine g_nmi (fun x1 => ?_)
          refine g_istore (pc := 98) (lv' := [(5, .int x1), (0, .ref (q sa)), (2, .int to), (3, .int memory), (4, .int y1)]) dX5_deniedFrom_98 (Nat.le_of_ble_eq_true rfl) rfl ?_
          refine g_goto (pc := 100) 6 dX5_deniedFrom_100 (by decide) ?_
          exact g_sub [1, 2, 3, 4, 0] rfl (ih6 (y1, x1))
        · refine g_iconst (pc := 92) (4) dX5_deniedFrom_92 (by decide) ?_
          refine g_goto (pc := 93) 97 dX5_deniedFrom_93 (by decide) ?_
          refine g_iadd (pc := 97) dX5_deniedFrom_97 ?_
          refine g_nmi (fun x2 => ?_)
          refine g_istore (pc := 98) (lv' := [(5, .int x2), (0, .ref (q sa)), (2, .int to), (3, .int memory), (4, .int y1)]) dX5_deniedFrom_98 (Nat.le_of_ble_eq_true rfl) rfl ?_
          refine g_goto (pc := 100) 6 dX5_deniedFrom_100 (by decide) ?_
          exact g_sub [1, 2, 3, 4, 0] rfl (ih6 (y1, x2))
      · refine g_iload_n (pc := 27) 2 dX5_deniedFrom_27 rfl rfl ?_
        refine g_aload_n (pc := 28) 0 dX5_deniedFrom_28 rfl rfl ?_
        refine gf_5_signs (pc := 29) hsa kf_X5_9 dX5_deniedFrom_29 ?_
        refine g_iload (pc := 32) 4 dX5_deniedFrom_32 rfl ?_
        refine a_ild (pc := 34) (aX_5_signs hsa) dX5_deniedFrom_34 ?_
        refine g_bipush (pc := 35) (97) dX5_deniedFrom_35 (by decide) ?_
        refine g_isub (pc := 37) dX5_deniedFrom_37 ?_
        refine gSN_i (pc := 38) [.int memory, .int ((σ.1 (sa + 1) y2.toNatClampNeg) - (97 : Int32))] [] (m_X8_valueOf l (vX D cy q) σ memory ((σ.1 (sa + 1) y2.toNatClampNeg) - (97 : Int32))) cw_X8_valueOf (fun _ h => h.2.2.2.1) ⟨rfl, rfl, by decide, by decide⟩ dX5_deniedFrom_38 rfl rfl (Nat.le_of_ble_eq_true rfl) (fun r3 => ?_)
        refine g_istore (pc := 41) (lv' := [(6, .int r3), (0, .ref (q sa)), (2, .int to), (3, .int memory), (4, .int y1), (5, .int y2)]) dX5_deniedFrom_41 (Nat.le_of_ble_eq_true rfl) rfl ?_
        refine g_iload (pc := 43) 4 dX5_deniedFrom_43 rfl ?_
        refine g_aload_n (pc := 45) 1 dX5_deniedFrom_45 rfl rfl ?_
        refine gf_5_signs (pc := 46) hsa kf_X5_9 dX5_deniedFrom_46 ?_
        refine g_iload (pc := 49) 5 dX5_deniedFrom_49 rfl ?_
        refine g_iconst (pc := 51) (1) dX5_deniedFrom_51 (by decide) ?_
        refine g_iadd (pc := 52) dX5_deniedFrom_52 ?_
        refine a_ild (pc := 53) (aX_5_signs hsa) dX5_deniedFrom_53 ?_
        refine g_iload (pc := 54) 0 dX5_deniedFrom_54 rfl ?_
        refine gS_i (pc := 56) [.int (σ.1 (sa + 1) (y2 + (1 : Int32)).toNatClampNeg), .int r3] [.int y1] (m_X5_deniedBy l D cy q σ (σ.1 (sa + 1) (y2 + (1 : Int32)).toNatClampNeg) r3) cw_X5_deniedBy km_X5_60 ⟨rfl, rfl, by decide, by decide⟩ dX5_deniedFrom_56 rfl rfl (Nat.le_of_ble_eq_true rfl) (fun r4 => ?_)
        refine g_iconst (pc := 59) (4) dX5_deniedFrom_59 (by decide) ?_
        refine g_aload_n (pc := 60) 1 dX5_deniedFrom_60 rfl rfl ?_
        refine gf_5_signs (pc := 61) hsa kf_X5_9 dX5_deniedFrom_61 ?_
        refine g_iload (pc := 64) 5 dX5_deniedFrom_64 rfl ?_
        refine g_iconst (pc := 66) (2) dX5_deniedFrom_66 (by decide) ?_
        refine g_iadd (pc := 67) dX5_deniedFrom_67 ?_
        refine a_ild (pc := 68) (aX_5_signs hsa) dX5_deniedFrom_68 ?_
        refine g_bipush (pc := 69) (97) dX5_deniedFrom_69 (by decide) ?_
        refine g_isub (pc := 71) dX5_deniedFrom_71 ?_
        refine g_imul (pc := 72) dX5_deniedFrom_72 ?_
        refine g_ishl (pc := 73) dX5_deniedFrom_73 ?_
        refine g_ior (pc := 74) dX5_deniedFrom_74 ?_
        refine g_nmi (fun x3 => ?_)
        refine g_istore (pc := 75) (lv' := [(4, .int x3), (6, .int r3), (0, .ref (q sa)), (2, .int to), (3, .int memory), (5, .int y2)]) dX5_deniedFrom_75 (Nat.le_of_ble_eq_true rfl) rfl ?_
        refine g_iload (pc := 77) 5 dX5_deniedFrom_77 rfl ?_
        refine g_aload_n (pc := 79) 2 dX5_deniedFrom_79 rfl rfl ?_
        refine gf_5_signs (pc := 80) hsa kf_X5_9 dX5_deniedFrom_80 ?_
        refine g_iload (pc := 83) 5 dX5_deniedFrom_83 rfl ?_
        refine a_ild (pc := 85) (aX_5_signs hsa) dX5_deniedFrom_85 ?_
        refine gS_i (pc := 86) [.int (σ.1 (sa + 1) y2.toNatClampNeg)] [.int y2] (m_X5_isLetter l D cy q σ (σ.1 (sa + 1) y2.toNatClampNeg)) cw_X5_isLetter km_X5_30 ⟨rfl, rfl, by decide, by decide⟩ dX5_deniedFrom_86 rfl rfl (Nat.le_of_ble_eq_true rfl) (fun r5 => ?_)
        refine g_if_eq (pc := 89) 96 dX5_deniedFrom_89 (by decide) ?_ ?_
        · refine g_iconst (pc := 96) (2) dX5_deniedFrom_96 (by decide) ?_
          refine g_iadd (pc := 97) dX5_deniedFrom_97 ?_
          refine g_nmi (fun x4 => ?_)
          refine g_istore (pc := 98) (lv' := [(5, .int x4), (4, .int x3), (6, .int r3), (0, .ref (q sa)), (2, .int to), (3, .int memory)]) dX5_deniedFrom_98 (Nat.le_of_ble_eq_true rfl) rfl ?_
          refine g_goto (pc := 100) 6 dX5_deniedFrom_100 (by decide) ?_
          exact g_sub [3, 4, 5, 1, 0] rfl (ih6 (x3, x4))
        · refine g_iconst (pc := 92) (4) dX5_deniedFrom_92 (by decide) ?_
          refine g_goto (pc := 93) 97 dX5_deniedFrom_93 (by decide) ?_
          refine g_iadd (pc := 97) dX5_deniedFrom_97 ?_
          refine g_nmi (fun x5 => ?_)
          refine g_istore (pc := 98) (lv' := [(5, .int x5), (4, .int x3), (6, .int r3), (0, .ref (q sa)), (2, .int to), (3, .int memory)]) dX5_deniedFrom_98 (Nat.le_of_ble_eq_true rfl) rfl ?_
          refine g_goto (pc := 100) 6 dX5_deniedFrom_100 (by decide) ?_
          exact g_sub [3, 4, 5, 1, 0] rfl (ih6 (x3, x5))
def f_X5_deniedAhead (sa : Nat) (memory : Int32) (σ : St) : Option (Int32) := (f_X5_deniedFrom sa (0 : Int32) (σ.1 sa 3) memory σ).bind fun r1 => some r1
abbrev rm_X5_deniedAhead : Room := { frames := 2, cells := 0, slots := 0, locals := 49 }
set_option maxHeartbeats 4000000 in
set_option maxRecDepth 20000 in
theorem m_X5_deniedAhead (l : Launch) (D : va_G) (cy : Cy) (q : Nat → Nat) (σ : St) (sa : Nat) (memory : Int32) (hsa : isS sa) : ∀ res, f_X5_deniedAhead sa memory σ = some res → MetX (vX D cy q) l yX5_deniedAhead cX5_deniedAhead 2 (some .int) rm_X5_deniedAhead [.ref (q sa), .int memory] σ (some (.int res), σ) := by
  let fin_ : Int32 → Option Value × St := fun r => (some (.int r), σ)
  have hro : ∀ (z : Int32) (res : Int32), some z = some res → fin_ res = fin_ z := fun z res h => by cases h; rfl
  refine MetX.of1 (fin := fin_) (lv := [(0, .ref (q sa)), (1, .int memory)]) (by decide) (Nat.le_of_ble_eq_true rfl) rfl ?_
  unfold f_X5_deniedAhead
  refine g_aload_n (pc := 0) 0 dX5_deniedAhead_0 rfl rfl ?_
  refine g_iconst (pc := 1) (0) dX5_deniedAhead_1 (by decide) ?_
  refine g_aload_n (pc := 2) 0 dX5_deniedAhead_2 rfl rfl ?_
  refine gf_5_colon (pc := 3) hsa kf_X5_23 dX5_deniedAhead_3 ?_
  refine g_iload_n (pc := 6) 1 dX5_deniedAhead_6 rfl rfl ?_
  refine gV_i (pc := 7) [.int (0 : Int32), .int (σ.1 sa 3), .int memory] [] (m_X5_deniedFrom l D cy q σ sa (0 : Int32) (σ.1 sa 3) memory hsa) cw_X5_deniedFrom km_X5_52 ⟨rfl, rfl, by decide, by decide⟩ (by have := hsa.lt; show sa < 88; omega) (eX_5 (cy := cy) hsa (σ.1 sa) (σ.2 sa)) rfl dX5_deniedAhead_7 rfl rfl (Nat.le_of_ble_eq_true rfl) (fun r1 => ?_)
  exact g_iret (pc := 10) (hro _) rfl dX5_deniedAhead_10
def f_X5_deniedBehind (sa : Nat) (memory : Int32) (σ : St) : Option (Int32) := (f_X5_deniedFrom sa ((σ.1 sa 3) + (1 : Int32)) (σ.1 sa 1) memory σ).bind fun r1 => some r1
abbrev rm_X5_deniedBehind : Room := { frames := 2, cells := 0, slots := 0, locals := 49 }
set_option maxHeartbeats 4000000 in
set_option maxRecDepth 20000 in
theorem m_X5_deniedBehind (l : Launch) (D : va_G) (cy : Cy) (q : Nat → Nat) (σ : St) (sa : Nat) (memory : Int32) (hsa : isS sa) : ∀ res, f_X5_deniedBehind sa memory σ = some res → MetX (vX D cy q) l yX5_deniedBehind cX5_deniedBehind 2 (some .int) rm_X5_deniedBehind [.ref (q sa), .int memory] σ (some (.int res), σ) := by
  let fin_ : Int32 → Option Value × St := fun r => (some (.int r), σ)
  have hro : ∀ (z : Int32) (res : Int32), some z = some res → fin_ res = fin_ z := fun z res h => by cases h; rfl
  refine MetX.of1 (fin := fin_) (lv := [(0, .ref (q sa)), (1, .int memory)]) (by decide) (Nat.le_of_ble_eq_true rfl) rfl ?_
  unfold f_X5_deniedBehind
  refine g_aload_n (pc := 0) 0 dX5_deniedBehind_0 rfl rfl ?_
  refine g_aload_n (pc := 1) 0 dX5_deniedBehind_1 rfl rfl ?_
  refine gf_5_colon (pc := 2) hsa kf_X5_23 dX5_deniedBehind_2 ?_
  refine g_iconst (pc := 5) (1) dX5_deniedBehind_5 (by decide) ?_
  refine g_iadd (pc := 6) dX5_deniedBehind_6 ?_
  refine g_aload_n (pc := 7) 0 dX5_deniedBehind_7 rfl rfl ?_
  refine gf_5_size (pc := 8) hsa kf_X5_15 dX5_deniedBehind_8 ?_
  refine g_iload_n (pc := 11) 1 dX5_deniedBehind_11 rfl rfl ?_
  refine gV_i (pc := 12) [.int ((σ.1 sa 3) + (1 : Int32)), .int (σ.1 sa 1), .int memory] [] (m_X5_deniedFrom l D cy q σ sa ((σ.1 sa 3) + (1 : Int32)) (σ.1 sa 1) memory hsa) cw_X5_deniedFrom km_X5_52 ⟨rfl, rfl, by decide, by decide⟩ (by have := hsa.lt; show sa < 88; omega) (eX_5 (cy := cy) hsa (σ.1 sa) (σ.2 sa)) rfl dX5_deniedBehind_12 rfl rfl (Nat.le_of_ble_eq_true rfl) (fun r1 => ?_)
  exact g_iret (pc := 15) (hro _) rfl dX5_deniedBehind_15
def f_X0_take (saying : Nat) (p : Nat) (start : Int32) (σ : St) : Option (St) := (f_X5_deniedAhead saying start σ).bind fun r1 => nm (stI σ 71 1 r1) fun s1 => chk (inb start 256) ((f_X5_deniedBehind saying (s1.1 (p + 8) start.toNatClampNeg) s1).bind fun r2 => nm (stI s1 71 2 r2) fun s2 => chk (inb start 256) (nm (stL s2 71 3 (s2.2 (p + 12) start.toNatClampNeg)) fun s3 => nm (stL s3 71 4 (s3.2 saying 2)) fun s4 => some s4))
abbrev rm_X0_take : Room := { frames := 3, cells := 0, slots := 0, locals := 70 }
set_option maxHeartbeats 4000000 in
set_option maxRecDepth 20000 in
theorem m_X0_take (l : Launch) (D : va_G) (cy : Cy) (q : Nat → Nat) (σ : St) (saying : Nat) (p : Nat) (start : Int32) (hsaying : isS saying) (hp : isP p) : ∀ res, f_X0_take saying p start σ = some res → MetX (vX D cy q) l yX0_take cX0_take 4 none rm_X0_take [.ref (q 71), .ref (q saying), .ref (q p), .int start] σ (none, res) := by
  let fin_ : St → Option Value × St := fun r => (none, r)
  have hro : ∀ (z : St) (res : St), some z = some res → fin_ res = fin_ z := fun z res h => by cases h; rfl
  refine MetX.of1 (fin := fin_) (lv := [(0, .ref (q 71)), (1, .ref (q saying)), (2, .ref (q p)), (3, .int start)]) (by decide) (Nat.le_of_ble_eq_true rfl) rfl ?_
  unfold f_X0_take
  refine g_aload_n (pc := 0) 0 dX0_take_0 rfl rfl ?_
  refine g_aload_n (pc := 1) 1 dX0_take_1 rfl rfl ?_
  refine g_iload_n (pc := 2) 3 dX0_take_2 rfl rfl ?_
  refine gV_i (pc := 3) [.int start] [.ref (q 71)] (m_X5_deniedAhead l D cy q σ saying start hsaying) cw_X5_deniedAhead km_X0_13 ⟨rfl, rfl, by decide, by decide⟩ (by have := hsaying.lt; show saying < 88; omega) (eX_5 (cy := cy) hsaying (σ.1 saying) (σ.2 saying)) rfl dX0_take_3 rfl rfl (Nat.le_of_ble_eq_true rfl) (fun r1 => ?_)
  refine gp_0_deniedAhead (pc := 6) kf_X0_19 dX0_take_6 (fun s1 => ?_)
  refine g_aload_n (pc := 9) 0 dX0_take_9 rfl rfl ?_
  refine g_aload_n (pc := 10) 1 dX0_take_10 rfl rfl ?_
  refine g_aload_n (pc := 11) 2 dX0_take_11 rfl rfl ?_
  refine gf_4_lastOf (pc := 12) hp kf_X0_22 dX0_take_12 ?_
  refine g_iload_n (pc := 15) 3 dX0_take_15 rfl rfl ?_
  refine a_ild (pc := 16) (aX_4_lastOf hp) dX0_take_16 ?_
  refine gV_i (pc := 17) [.int (s1.1 (p + 8) start.toNatClampNeg)] [.ref (q 71)] (m_X5_deniedBehind l D cy q s1 saying (s1.1 (p + 8) start.toNatClampNeg) hsaying) cw_X5_deniedBehind km_X0_28 ⟨rfl, rfl, by decide, by decide⟩ (by have := hsaying.lt; show saying < 88; omega) (eX_5 (cy := cy) hsaying (s1.1 saying) (s1.2 saying)) rfl dX0_take_17 rfl rfl (Nat.le_of_ble_eq_true rfl) (fun r2 => ?_)
  refine gp_0_deniedBehind (pc := 20) kf_X0_31 dX0_take_20 (fun s2 => ?_)
  refine g_aload_n (pc := 23) 0 dX0_take_23 rfl rfl ?_
  refine g_aload_n (pc := 24) 2 dX0_take_24 rfl rfl ?_
  refine gf_4_comesTo (pc := 25) hp kf_X0_33 dX0_take_25 ?_
  refine g_iload_n (pc := 28) 3 dX0_take_28 rfl rfl ?_
  refine a_lld (pc := 29) (aX_4_comesTo hp) dX0_take_29 ?_
  refine gp_0_comesTo (pc := 30) kf_X0_37 dX0_take_30 (fun s3 => ?_)
  refine g_aload_n (pc := 33) 0 dX0_take_33 rfl rfl ?_
  refine g_aload_n (pc := 34) 1 dX0_take_34 rfl rfl ?_
  refine gf_5_alike (pc := 35) hsaying kf_X0_40 dX0_take_35 ?_
  refine gp_0_alike (pc := 38) kf_X0_43 dX0_take_38 (fun s4 => ?_)
  exact g_vret (pc := 41) (hro _) rfl dX0_take_41
def f_X0_isMeant (other : Int32) (σ : St) : Option (Int32) := chk (inb other 256) ((if ((σ.1 1 other.toNatClampNeg) &&& (σ.1 71 1)) = (0 : Int32) then some (1 : Int32) else some (0 : Int32)))
abbrev rm_X0_isMeant : Room := { frames := 0, cells := 0, slots := 0, locals := 0 }
set_option maxHeartbeats 4000000 in
set_option maxRecDepth 20000 in
theorem m_X0_isMeant (l : Launch) (D : va_G) (cy : Cy) (q : Nat → Nat) (σ : St) (other : Int32)  : ∀ res, f_X0_isMeant other σ = some res → MetX (vX D cy q) l yX0_isMeant cX0_isMeant 2 (some .boolean) rm_X0_isMeant [.ref (q 71), .int other] σ (some (.int res), σ) := by
  let fin_ : Int32 → Option Value × St := fun r => (some (.int r), σ)
  have hro : ∀ (z : Int32) (res : Int32), some z = some res → fin_ res = fin_ z := fun z res h => by cases h; rfl
  refine MetX.of1 (fin := fin_) (lv := [(0, .ref (q 71)), (1, .int other)]) (by decide) (Nat.le_of_ble_eq_true rfl) rfl ?_
  unfold f_X0_isMeant
  refine g_aload_n (pc := 0) 0 dX0_isMeant_0 rfl rfl ?_
  refine gf_0_forms (pc := 1) kf_X0_7 dX0_isMeant_1 ?_
  refine gf_1_hot (pc := 4) kf_X0_44 dX0_isMeant_4 ?_
  refine g_iload_n (pc := 7) 1 dX0_isMeant_7 rfl rfl ?_
  refine a_ild (pc := 8) aX_1_hot dX0_isMeant_8 ?_
  refine g_aload_n (pc := 9) 0 dX0_isMeant_9 rfl rfl ?_
  refine gf_0_deniedAhead (pc := 10) kf_X0_19 dX0_isMeant_10 ?_
  refine g_iand (pc := 13) dX0_isMeant_13 ?_
  refine g_if_ne (pc := 14) 21 dX0_isMeant_14 (by decide) ?_ ?_
  · refine g_iconst (pc := 21) (0) dX0_isMeant_21 (by decide) ?_
    exact g_zret (pc := 22) rfl (hro _) rfl dX0_isMeant_22
  · refine g_iconst (pc := 17) (1) dX0_isMeant_17 (by decide) ?_
    refine g_goto (pc := 18) 22 dX0_isMeant_18 (by decide) ?_
    exact g_zret (pc := 22) rfl (hro _) rfl dX0_isMeant_22
def f_X0_isBroken (q_ : Nat) (other : Int32) (σ : St) : Option (Int32) := chk (inb other 256) ((if ((σ.1 (q_ + 9) other.toNatClampNeg) &&& (σ.1 71 2)) = (0 : Int32) then chk (inb other 256) ((if (lg_cmp (((σ.2 71 3) ^^^ (σ.2 (q_ + 12) other.toNatClampNeg)) &&& (σ.2 71 4)) (0 : Int64)) = (0 : Int32) then some (0 : Int32) else some (1 : Int32))) else some (1 : Int32)))
abbrev rm_X0_isBroken : Room := { frames := 0, cells := 0, slots := 0, locals := 0 }
set_option maxHeartbeats 4000000 in
set_option maxRecDepth 20000 in
theorem m_X0_isBroken (l : Launch) (D : va_G) (cy : Cy) (q : Nat → Nat) (σ : St) (q_ : Nat) (other : Int32) (hq_ : isP q_) : ∀ res, f_X0_isBroken q_ other σ = some res → MetX (vX D cy q) l yX0_isBroken cX0_isBroken 3 (some .boolean) rm_X0_isBroken [.ref (q 71), .ref (q q_), .int other] σ (some (.int res), σ) := by
  let fin_ : Int32 → Option Value × St := fun r => (some (.int r), σ)
  have hro : ∀ (z : Int32) (res : Int32), some z = some res → fin_ res = fin_ z := fun z res h => by cases h; rfl
  refine MetX.of1 (fin := fin_) (lv := [(0, .ref (q 71)), (1, .ref (q q_)), (2, .int other)]) (by decide) (Nat.le_of_ble_eq_true rfl) rfl ?_
  unfold f_X0_isBroken
  refine g_aload_n (pc := 0) 1 dX0_isBroken_0 rfl rfl ?_
  refine gf_4_hotOf (pc := 1) hq_ kf_X0_49 dX0_isBroken_1 ?_
  refine g_iload_n (pc := 4) 2 dX0_isBroken_4 rfl rfl ?_
  refine a_ild (pc := 5) (aX_4_hotOf hq_) dX0_isBroken_5 ?_
  refine g_aload_n (pc := 6) 0 dX0_isBroken_6 rfl rfl ?_
  refine gf_0_deniedBehind (pc := 7) kf_X0_31 dX0_isBroken_7 ?_
  refine g_iand (pc := 10) dX0_isBroken_10 ?_
  refine g_if_ne (pc := 11) 35 dX0_isBroken_11 (by decide) ?_ ?_
  · refine g_iconst (pc := 35) (1) dX0_isBroken_35 (by decide) ?_
    refine g_goto (pc := 36) 40 dX0_isBroken_36 (by decide) ?_
    exact g_zret (pc := 40) rfl (hro _) rfl dX0_isBroken_40
  · refine g_aload_n (pc := 14) 0 dX0_isBroken_14 rfl rfl ?_
    refine gf_0_comesTo (pc := 15) kf_X0_37 dX0_isBroken_15 ?_
    refine g_aload_n (pc := 18) 1 dX0_isBroken_18 rfl rfl ?_
    refine gf_4_comesTo (pc := 19) hq_ kf_X0_33 dX0_isBroken_19 ?_
    refine g_iload_n (pc := 22) 2 dX0_isBroken_22 rfl rfl ?_
    refine a_lld (pc := 23) (aX_4_comesTo hq_) dX0_isBroken_23 ?_
    refine g_lxor (pc := 24) dX0_isBroken_24 ?_
    refine g_aload_n (pc := 25) 0 dX0_isBroken_25 rfl rfl ?_
    refine gf_0_alike (pc := 26) kf_X0_43 dX0_isBroken_26 ?_
    refine g_land (pc := 29) dX0_isBroken_29 ?_
    refine g_lconst (pc := 30) (0) dX0_isBroken_30 (by decide) ?_
    refine g_lcmp (pc := 31) dX0_isBroken_31 ?_
    refine g_if_eq (pc := 32) 39 dX0_isBroken_32 (by decide) ?_ ?_
    · refine g_iconst (pc := 39) (0) dX0_isBroken_39 (by decide) ?_
      exact g_zret (pc := 40) rfl (hro _) rfl dX0_isBroken_40
    · refine g_iconst (pc := 35) (1) dX0_isBroken_35 (by decide) ?_
      refine g_goto (pc := 36) 40 dX0_isBroken_36 (by decide) ?_
      exact g_zret (pc := 40) rfl (hro _) rfl dX0_isBroken_40
def f_X1_shapeOf (one : Int32) (two : Int32) (σ : St) : Option (Int32) := chk (inb (one &&& (255 : Int32)) 256) (nm (σ.1 2 (one &&& (255 : Int32)).toNatClampNeg) fun x1 => chk (inb (two &&& (255 : Int32)) 256) (nm (σ.1 2 (two &&& (255 : Int32)).toNatClampNeg) fun x2 => nm (((x1 ||| (2340 : Int32)) - x2) &&& (2340 : Int32)) fun x3 => nm (((x2 ||| (2340 : Int32)) - x1) &&& (2340 : Int32)) fun x4 => some (((x3 >>> ((1 : Int32) &&& 31)) ||| x4) ||| ((x3 &&& x4) >>> ((2 : Int32) &&& 31)))))
abbrev rm_X1_shapeOf : Room := { frames := 0, cells := 0, slots := 0, locals := 0 }
set_option maxHeartbeats 4000000 in
set_option maxRecDepth 20000 in
theorem m_X1_shapeOf (l : Launch) (D : va_G) (cy : Cy) (q : Nat → Nat) (σ : St) (one : Int32) (two : Int32)  : ∀ res, f_X1_shapeOf one two σ = some res → MetX (vX D cy q) l yX1_shapeOf cX1_shapeOf 7 (some .int) rm_X1_shapeOf [.ref (q 0), .int one, .int two] σ (some (.int res), σ) := by
  let fin_ : Int32 → Option Value × St := fun r => (some (.int r), σ)
  have hro : ∀ (z : Int32) (res : Int32), some z = some res → fin_ res = fin_ z := fun z res h => by cases h; rfl
  refine MetX.of1 (fin := fin_) (lv := [(0, .ref (q 0)), (1, .int one), (2, .int two)]) (by decide) (Nat.le_of_ble_eq_true rfl) rfl ?_
  unfold f_X1_shapeOf
  refine g_aload_n (pc := 0) 0 dX1_shapeOf_0 rfl rfl ?_
  refine gf_1_lanes (pc := 1) kf_X1_15 dX1_shapeOf_1 ?_
  refine g_iload_n (pc := 4) 1 dX1_shapeOf_4 rfl rfl ?_
  refine g_sipush (pc := 5) (255) dX1_shapeOf_5 (by decide) ?_
  refine g_iand (pc := 8) dX1_shapeOf_8 ?_
  refine a_ild (pc := 9) aX_1_lanes dX1_shapeOf_9 ?_
  refine g_nmi (fun x1 => ?_)
  refine g_istore_n (pc := 10) (lv' := [(3, .int x1), (0, .ref (q 0)), (1, .int one), (2, .int two)]) dX1_shapeOf_10 rfl (Nat.le_of_ble_eq_true rfl) rfl ?_
  refine g_aload_n (pc := 11) 1 dX1_shapeOf_11 rfl rfl ?_
  refine gf_1_lanes (pc := 12) kf_X1_15 dX1_shapeOf_12 ?_
  refine g_iload_n (pc := 15) 3 dX1_shapeOf_15 rfl rfl ?_
  refine g_sipush (pc := 16) (255) dX1_shapeOf_16 (by decide) ?_
  refine g_iand (pc := 19) dX1_shapeOf_19 ?_
  refine a_ild (pc := 20) aX_1_lanes dX1_shapeOf_20 ?_
  refine g_nmi (fun x2 => ?_)
  refine g_istore (pc := 21) (lv' := [(4, .int x2), (3, .int x1), (0, .ref (q 0)), (1, .int one), (2, .int two)]) dX1_shapeOf_21 (Nat.le_of_ble_eq_true rfl) rfl ?_
  refine g_iload_n (pc := 23) 1 dX1_shapeOf_23 rfl rfl ?_
  refine g_sipush (pc := 24) (2340) dX1_shapeOf_24 (by decide) ?_
  refine g_ior (pc := 27) dX1_shapeOf_27 ?_
  refine g_iload (pc := 28) 0 dX1_shapeOf_28 rfl ?_
  refine g_isub (pc := 30) dX1_shapeOf_30 ?_
  refine g_sipush (pc := 31) (2340) dX1_shapeOf_31 (by decide) ?_
  refine g_iand (pc := 34) dX1_shapeOf_34 ?_
  refine g_nmi (fun x3 => ?_)
  refine g_istore (pc := 35) (lv' := [(5, .int x3), (4, .int x2), (3, .int x1), (0, .ref (q 0)), (1, .int one), (2, .int two)]) dX1_shapeOf_35 (Nat.le_of_ble_eq_true rfl) rfl ?_
  refine g_iload (pc := 37) 1 dX1_shapeOf_37 rfl ?_
  refine g_sipush (pc := 39) (2340) dX1_shapeOf_39 (by decide) ?_
  refine g_ior (pc := 42) dX1_shapeOf_42 ?_
  refine g_iload_n (pc := 43) 2 dX1_shapeOf_43 rfl rfl ?_
  refine g_isub (pc := 44) dX1_shapeOf_44 ?_
  refine g_sipush (pc := 45) (2340) dX1_shapeOf_45 (by decide) ?_
  refine g_iand (pc := 48) dX1_shapeOf_48 ?_
  refine g_nmi (fun x4 => ?_)
  refine g_istore (pc := 49) (lv' := [(6, .int x4), (5, .int x3), (4, .int x2), (3, .int x1), (0, .ref (q 0)), (1, .int one), (2, .int two)]) dX1_shapeOf_49 (Nat.le_of_ble_eq_true rfl) rfl ?_
  refine g_iload (pc := 51) 1 dX1_shapeOf_51 rfl ?_
  refine g_iconst (pc := 53) (1) dX1_shapeOf_53 (by decide) ?_
  refine g_ishr (pc := 54) dX1_shapeOf_54 ?_
  refine g_iload (pc := 55) 0 dX1_shapeOf_55 rfl ?_
  refine g_ior (pc := 57) dX1_shapeOf_57 ?_
  refine g_iload (pc := 58) 1 dX1_shapeOf_58 rfl ?_
  refine g_iload (pc := 60) 0 dX1_shapeOf_60 rfl ?_
  refine g_iand (pc := 62) dX1_shapeOf_62 ?_
  refine g_iconst (pc := 63) (2) dX1_shapeOf_63 (by decide) ?_
  refine g_ishr (pc := 64) dX1_shapeOf_64 ?_
  refine g_ior (pc := 65) dX1_shapeOf_65 ?_
  exact g_iret (pc := 66) (hro _) rfl dX1_shapeOf_66
def b_X1_deniedBy_5 (bits : Int32) (memory : Int32) : (Int32 × Int32) → Option ((Int32 × Int32) ⊕ (Int32)) := un fun y1 y2 => (if (4 : Int32) ≤ y2 then some (.inr y1) else (f_X8_valueOf memory y2).bind fun r1 => nm (((1 : Int32) <<< (r1 &&& 31)) - (1 : Int32)) fun x1 => nm ((15 : Int32) &&& ((x1 ||| ((1 : Int32) <<< (r1 &&& 31))) ^^^ (-1 : Int32))) fun x2 => nm (bits >>> (((3 : Int32) * y2) &&& 31)) fun x3 => (if (x3 &&& (1 : Int32)) = (0 : Int32) then (if (x3 &&& (2 : Int32)) = (0 : Int32) then nm ((0 : Int32) ||| (0 : Int32)) fun x26 => (if (x3 &&& (4 : Int32)) = (0 : Int32) then nm (x26 ||| (0 : Int32)) fun x30 => nm (y1 ||| (x30 <<< (((4 : Int32) * y2) &&& 31))) fun x31 => nm (y2 + (1 : Int32)) fun x32 => some (.inl (x31, x32)) else nm (x26 ||| x1) fun x27 => nm (y1 ||| (x27 <<< (((4 : Int32) * y2) &&& 31))) fun x28 => nm (y2 + (1 : Int32)) fun x29 => some (.inl (x28, x29))) else nm ((0 : Int32) ||| x2) fun x19 => (if (x3 &&& (4 : Int32)) = (0 : Int32) then nm (x19 ||| (0 : Int32)) fun x23 => nm (y1 ||| (x23 <<< (((4 : Int32) * y2) &&& 31))) fun x24 => nm (y2 + (1 : Int32)) fun x25 => some (.inl (x24, x25)) else nm (x19 ||| x1) fun x20 => nm (y1 ||| (x20 <<< (((4 : Int32) * y2) &&& 31))) fun x21 => nm (y2 + (1 : Int32)) fun x22 => some (.inl (x21, x22)))) else nm (x1 ||| x2) fun x4 => (if (x3 &&& (2 : Int32)) = (0 : Int32) then nm (x4 ||| (0 : Int32)) fun x12 => (if (x3 &&& (4 : Int32)) = (0 : Int32) then nm (x12 ||| (0 : Int32)) fun x16 => nm (y1 ||| (x16 <<< (((4 : Int32) * y2) &&& 31))) fun x17 => nm (y2 + (1 : Int32)) fun x18 => some (.inl (x17, x18)) else nm (x12 ||| x1) fun x13 => nm (y1 ||| (x13 <<< (((4 : Int32) * y2) &&& 31))) fun x14 => nm (y2 + (1 : Int32)) fun x15 => some (.inl (x14, x15))) else nm (x4 ||| x2) fun x5 => (if (x3 &&& (4 : Int32)) = (0 : Int32) then nm (x5 ||| (0 : Int32)) fun x9 => nm (y1 ||| (x9 <<< (((4 : Int32) * y2) &&& 31))) fun x10 => nm (y2 + (1 : Int32)) fun x11 => some (.inl (x10, x11)) else nm (x5 ||| x1) fun x6 => nm (y1 ||| (x6 <<< (((4 : Int32) * y2) &&& 31))) fun x7 => nm (y2 + (1 : Int32)) fun x8 => some (.inl (x7, x8))))))
def f_X1_deniedBy (bits : Int32) (memory : Int32) : Option (Int32) := (wh FU (b_X1_deniedBy_5 bits memory) ((0 : Int32), (0 : Int32))).bind (fun z1 => some z1)
abbrev rm_X1_deniedBy : Room := { frames := 1, cells := 0, slots := 0, locals := 21 }
set_option maxHeartbeats 4000000 in
set_option maxRecDepth 20000 in
theorem m_X1_deniedBy (l : Launch) (D : va_G) (cy : Cy) (q : Nat → Nat) (σ : St) (bits : Int32) (memory : Int32)  : ∀ res, f_X1_deniedBy bits memory = some res → MetX (vX D cy q) l yX1_deniedBy cX1_deniedBy 10 (some .int) rm_X1_deniedBy [.ref (q 0), .int bits, .int memory] σ (some (.int res), σ) := by
  let fin_ : Int32 → Option Value × St := fun r => (some (.int r), σ)
  have hro : ∀ (z : Int32) (res : Int32), some z = some res → fin_ res = fin_ z := fun z res h => by cases h; rfl
  refine MetX.of1 (fin := fin_) (lv := [(0, .ref (q 0)), (1, .int bits), (2, .int memory)]) (by decide) (Nat.le_of_ble_eq_true rfl) rfl ?_
  unfold f_X1_deniedBy
  refine g_iconst (pc := 0) (0) dX1_deniedBy_0 (by decide) ?_
  refine g_istore_n (pc := 1) (lv' := [(3, .int (0 : Int32)), (0, .ref (q 0)), (1, .int bits), (2, .int memory)]) dX1_deniedBy_1 rfl (Nat.le_of_ble_eq_true rfl) rfl ?_
  refine g_iconst (pc := 2) (0) dX1_deniedBy_2 (by decide) ?_
  refine g_istore (pc := 3) (lv' := [(4, .int (0 : Int32)), (3, .int (0 : Int32)), (0, .ref (q 0)), (1, .int bits), (2, .int memory)]) dX1_deniedBy_3 (Nat.le_of_ble_eq_true rfl) rfl ?_
  refine g_sub [3, 4, 1, 0] rfl ?_
  refine g_wh2 (pc := 5) (s0 := ((0 : Int32), (0 : Int32))) (fun (w_ : Int32 × Int32) => σ) (fun (w_ : Int32 × Int32) => [(1, .int bits), (2, .int memory), (3, .int w_.1), (4, .int w_.2)]) (fun (w_ : Int32) => σ) (fun (w_ : Int32) => [(3, .int w_)]) 119 ?_ ?_
  · rintro z1
    try dsimp only [un, Sum.elim_inl]
    refine g_iload_n (pc := 119) 0 dX1_deniedBy_119 rfl rfl ?_
    exact g_iret (pc := 120) (hro _) rfl dX1_deniedBy_120
  · intro K5 hx5 ih5
    rintro ⟨y1, y2⟩
    try dsimp only [b_X1_deniedBy_5, un]
    refine g_iload (pc := 5) 3 dX1_deniedBy_5 rfl ?_
    refine g_iconst (pc := 7) (4) dX1_deniedBy_7 (by decide) ?_
    refine g_icmp_ge (pc := 8) 119 dX1_deniedBy_8 (by decide) ?_ ?_
    · exact g_sub [2] rfl (hx5 y1)
    · refine g_iload_n (pc := 11) 1 dX1_deniedBy_11 rfl rfl ?_
      refine g_iload (pc := 12) 3 dX1_deniedBy_12 rfl ?_
      refine gSN_i (pc := 14) [.int memory, .int y2] [] (m_X8_valueOf l (vX D cy q) σ memory y2) cw_X8_valueOf (fun _ h => h.1) ⟨rfl, rfl, by decide, by decide⟩ dX1_deniedBy_14 rfl rfl (Nat.le_of_ble_eq_true rfl) (fun r1 => ?_)
      refine g_istore (pc := 17) (lv' := [(5, .int r1), (1, .int bits), (2, .int memory), (3, .int y1), (4, .int y2)]) dX1_deniedBy_17 (Nat.le_of_ble_eq_true rfl) rfl ?_
      refine g_iconst (pc := 19) (1) dX1_deniedBy_19 (by decide) ?_
      refine g_iload (pc := 20) 0 dX1_deniedBy_20 rfl ?_
      refine g_ishl (pc := 22) dX1_deniedBy_22 ?_
      refine g_iconst (pc := 23) (1) dX1_deniedBy_23 (by decide) ?_
      refine g_isub (pc := 24) dX1_deniedBy_24 ?_
      refine g_nmi (fun x1 => ?_)
      refine g_istore (pc := 25) (lv' := [(6, .int x1), (5, .int r1), (1, .int bits), (2, .int memory), (3, .int y1), (4, .int y2)]) dX1_deniedBy_25 (Nat.le_of_ble_eq_true rfl) rfl ?_
      refine g_bipush (pc := 27) (15) dX1_deniedBy_27 (by decide) ?_
      refine g_iload (pc := 29) 0 dX1_deniedBy_29 rfl ?_
      refine g_iconst (pc := 31) (1) dX1_deniedBy_31 (by decide) ?_
      refine g_iload (pc := 32) 1 dX1_deniedBy_32 rfl ?_
      refine g_ishl (pc := 34) dX1_deniedBy_34 ?_
      refine g_ior (pc := 35) dX1_deniedBy_35 ?_
      refine g_iconst (pc := 36) (-1) dX1_deniedBy_36 (by decide) ?_
      refine g_ixor (pc := 37) dX1_deniedBy_37 ?_
      refine g_iand (pc := 38) dX1_deniedBy_38 ?_
      refine g_nmi (fun x2 => ?_)
      refine g_istore (pc := 39) (lv' := [(7, .int x2), (6, .int x1), (5, .int r1), (1, .int bits), (2, .int memory), (3, .int y1), (4, .int y2)]) dX1_deniedBy_39 (Nat.le_of_ble_eq_true rfl) rfl ?_
      refine g_iload_n (pc := 41) 3 dX1_deniedBy_41 rfl rfl ?_
      refine g_iconst (pc := 42) (3) dX1_deniedBy_42 (by decide) ?_
      refine g_iload (pc := 43) 6 dX1_deniedBy_43 rfl ?_
      refine g_imul (pc := 45) dX1_deniedBy_45 ?_
      refine g_ishr (pc := 46) dX1_deniedBy_46 ?_
      refine g_nmi (fun x3 => ?_)
      refine g_istore (pc := 47) (lv' := [(8, .int x3), (7, .int x2), (6, .int x1), (5, .int r1), (1, .int bits), (2, .int memory), (3, .int y1), (4, .int y2)]) dX1_deniedBy_47 (Nat.le_of_ble_eq_true rfl) rfl ?_
      refine g_iload (pc := 49) 0 dX1_deniedBy_49 rfl ?_
      refine g_iconst (pc := 51) (1) dX1_deniedBy_51 (by decide) ?_
      refine g_iand (pc := 52) dX1_deniedBy_52 ?_
      refine g_if_ne (pc := 53) 60 dX1_deniedBy_53 (by decide) ?_ ?_
      · refine g_iload (pc := 60) 2 dX1_deniedBy_60 rfl ?_
        refine g_iload (pc := 62) 1 dX1_deniedBy_62 rfl ?_
        refine g_ior (pc := 64) dX1_deniedBy_64 ?_
        refine g_nmi (fun x4 => ?_)
        refine g_istore (pc := 65) (lv' := [(9, .int x4), (8, .int x3), (7, .int x2), (6, .int x1), (5, .int r1), (1, .int bits), (2, .int memory), (3, .int y1), (4, .int y2)]) dX1_deniedBy_65 (Nat.le_of_ble_eq_true rfl) rfl ?_
        refine g_iload (pc := 67) 0 dX1_deniedBy_67 rfl ?_
        refine g_iload (pc := 69) 1 dX1_deniedBy_69 rfl ?_
        refine g_iconst (pc := 71) (2) dX1_deniedBy_71 (by decide) ?_
        refine g_iand (pc := 72) dX1_deniedBy_72 ?_
        refine g_if_ne (pc := 73) 80 dX1_deniedBy_73 (by decide) ?_ ?_
        · refine g_iload (pc := 80) 2 dX1_deniedBy_80 rfl ?_
          refine g_ior (pc := 82) dX1_deniedBy_82 ?_
          refine g_nmi (fun x5 => ?_)
          refine g_istore (pc := 83) (lv' := [(9, .int x5), (8, .int x3), (7, .int x2), (6, .int x1), (5, .int r1), (1, .int bits), (2, .int memory), (3, .int y1), (4, .int y2)]) dX1_deniedBy_83 (Nat.le_of_ble_eq_true rfl) rfl ?_
          refine g_iload (pc := 85) 0 dX1_deniedBy_85 rfl ?_
          refine g_iload (pc := 87) 1 dX1_deniedBy_87 rfl ?_
          refine g_iconst (pc := 89) (4) dX1_deniedBy_89 (by decide) ?_
          refine g_iand (pc := 90) dX1_deniedBy_90 ?_
          refine g_if_ne (pc := 91) 98 dX1_deniedBy_91 (by decide) ?_ ?_
          · refine g_iload (pc := 98) 3 dX1_deniedBy_98 rfl ?_
            refine g_ior (pc := 100) dX1_deniedBy_100 ?_
            refine g_nmi (fun x6 => ?_)
            refine g_istore (pc := 101) (lv' := [(9, .int x6), (8, .int x3), (7, .int x2), (6, .int x1), (5, .int r1), (1, .int bits), (2, .int memory), (3, .int y1), (4, .int y2)]) dX1_deniedBy_101 (Nat.le_of_ble_eq_true rfl) rfl ?_
            refine g_iload_n (pc := 103) 7 dX1_deniedBy_103 rfl rfl ?_
            refine g_iload (pc := 104) 0 dX1_deniedBy_104 rfl ?_
            refine g_iconst (pc := 106) (4) dX1_deniedBy_106 (by decide) ?_
            refine g_iload (pc := 107) 8 dX1_deniedBy_107 rfl ?_
            refine g_imul (pc := 109) dX1_deniedBy_109 ?_
            refine g_ishl (pc := 110) dX1_deniedBy_110 ?_
            refine g_ior (pc := 111) dX1_deniedBy_111 ?_
            refine g_nmi (fun x7 => ?_)
            refine g_istore_n (pc := 112) (lv' := [(3, .int x7), (9, .int x6), (8, .int x3), (7, .int x2), (6, .int x1), (5, .int r1), (1, .int bits), (2, .int memory), (4, .int y2)]) dX1_deniedBy_112 rfl (Nat.le_of_ble_eq_true rfl) rfl ?_
            refine g_iinc (pc := 113) (j := 8) (1) (lf := fun x8 => [(4, .int x8), (3, .int x7), (9, .int x6), (8, .int x3), (7, .int x2), (6, .int x1), (5, .int r1), (1, .int bits), (2, .int memory)]) dX1_deniedBy_113 rfl (by decide) (Nat.le_of_ble_eq_true rfl) (fun _ => rfl) (fun x8 => ?_)
            refine g_goto (pc := 116) 5 dX1_deniedBy_116 (by decide) ?_
            exact g_sub [7, 8, 1, 0] rfl (ih5 (x7, x8))
          · refine g_iconst (pc := 94) (0) dX1_deniedBy_94 (by decide) ?_
            refine g_goto (pc := 95) 100 dX1_deniedBy_95 (by decide) ?_
            refine g_ior (pc := 100) dX1_deniedBy_100 ?_
            refine g_nmi (fun x9 => ?_)
            refine g_istore (pc := 101) (lv' := [(9, .int x9), (8, .int x3), (7, .int x2), (6, .int x1), (5, .int r1), (1, .int bits), (2, .int memory), (3, .int y1), (4, .int y2)]) dX1_deniedBy_101 (Nat.le_of_ble_eq_true rfl) rfl ?_
            refine g_iload_n (pc := 103) 7 dX1_deniedBy_103 rfl rfl ?_
            refine g_iload (pc := 104) 0 dX1_deniedBy_104 rfl ?_
            refine g_iconst (pc := 106) (4) dX1_deniedBy_106 (by decide) ?_
            refine g_iload (pc := 107) 8 dX1_deniedBy_107 rfl ?_
            refine g_imul (pc := 109) dX1_deniedBy_109 ?_
            refine g_ishl (pc := 110) dX1_deniedBy_110 ?_
            refine g_ior (pc := 111) dX1_deniedBy_111 ?_
            refine g_nmi (fun x10 => ?_)
            refine g_istore_n (pc := 112) (lv' := [(3, .int x10), (9, .int x9), (8, .int x3), (7, .int x2), (6, .int x1), (5, .int r1), (1, .int bits), (2, .int memory), (4, .int y2)]) dX1_deniedBy_112 rfl (Nat.le_of_ble_eq_true rfl) rfl ?_
            refine g_iinc (pc := 113) (j := 8) (1) (lf := fun x11 => [(4, .int x11), (3, .int x10), (9, .int x9), (8, .int x3), (7, .int x2), (6, .int x1), (5, .int r1), (1, .int bits), (2, .int memory)]) dX1_deniedBy_113 rfl (by decide) (Nat.le_of_ble_eq_true rfl) (fun _ => rfl) (fun x11 => ?_)
            refine g_goto (pc := 116) 5 dX1_deniedBy_116 (by decide) ?_
            exact g_sub [7, 8, 1, 0] rfl (ih5 (x10, x11))
        · refine g_iconst (pc := 76) (0) dX1_deniedBy_76 (by decide) ?_
          refine g_goto (pc := 77) 82 dX1_deniedBy_77 (by decide) ?_
          refine g_ior (pc := 82) dX1_deniedBy_82 ?_
          refine g_nmi (fun x12 => ?_)
          refine g_istore (pc := 83) (lv' := [(9, .int x12), (8, .int x3), (7, .int x2), (6, .int x1), (5, .int r1), (1, .int bits), (2, .int memory), (3, .int y1), (4, .int y2)]) dX1_deniedBy_83 (Nat.le_of_ble_eq_true rfl) rfl ?_
          refine g_iload (pc := 85) 0 dX1_deniedBy_85 rfl ?_
          refine g_iload (pc := 87) 1 dX1_deniedBy_87 rfl ?_
          refine g_iconst (pc := 89) (4) dX1_deniedBy_89 (by decide) ?_
          refine g_iand (pc := 90) dX1_deniedBy_90 ?_
          refine g_if_ne (pc := 91) 98 dX1_deniedBy_91 (by decide) ?_ ?_
          · refine g_iload (pc := 98) 3 dX1_deniedBy_98 rfl ?_
            refine g_ior (pc := 100) dX1_deniedBy_100 ?_
            refine g_nmi (fun x13 => ?_)
            refine g_istore (pc := 101) (lv' := [(9, .int x13), (8, .int x3), (7, .int x2), (6, .int x1), (5, .int r1), (1, .int bits), (2, .int memory), (3, .int y1), (4, .int y2)]) dX1_deniedBy_101 (Nat.le_of_ble_eq_true rfl) rfl ?_
            refine g_iload_n (pc := 103) 7 dX1_deniedBy_103 rfl rfl ?_
            refine g_iload (pc := 104) 0 dX1_deniedBy_104 rfl ?_
            refine g_iconst (pc := 106) (4) dX1_deniedBy_106 (by decide) ?_
            refine g_iload (pc := 107) 8 dX1_deniedBy_107 rfl ?_
            refine g_imul (pc := 109) dX1_deniedBy_109 ?_
            refine g_ishl (pc := 110) dX1_deniedBy_110 ?_
            refine g_ior (pc := 111) dX1_deniedBy_111 ?_
            refine g_nmi (fun x14 => ?_)
            refine g_istore_n (pc := 112) (lv' := [(3, .int x14), (9, .int x13), (8, .int x3), (7, .int x2), (6, .int x1), (5, .int r1), (1, .int bits), (2, .int memory), (4, .int y2)]) dX1_deniedBy_112 rfl (Nat.le_of_ble_eq_true rfl) rfl ?_
            refine g_iinc (pc := 113) (j := 8) (1) (lf := fun x15 => [(4, .int x15), (3, .int x14), (9, .int x13), (8, .int x3), (7, .int x2), (6, .int x1), (5, .int r1), (1, .int bits), (2, .int memory)]) dX1_deniedBy_113 rfl (by decide) (Nat.le_of_ble_eq_true rfl) (fun _ => rfl) (fun x15 => ?_)
            refine g_goto (pc := 116) 5 dX1_deniedBy_116 (by decide) ?_
            exact g_sub [7, 8, 1, 0] rfl (ih5 (x14, x15))
          · refine g_iconst (pc := 94) (0) dX1_deniedBy_94 (by decide) ?_
            refine g_goto (pc := 95) 100 dX1_deniedBy_95 (by decide) ?_
            refine g_ior (pc := 100) dX1_deniedBy_100 ?_
            refine g_nmi (fun x16 => ?_)
            refine g_istore (pc := 101) (lv' := [(9, .int x16), (8, .int x3), (7, .int x2), (6, .int x1), (5, .int r1), (1, .int bits), (2, .int memory), (3, .int y1), (4, .int y2)]) dX1_deniedBy_101 (Nat.le_of_ble_eq_true rfl) rfl ?_
            refine g_iload_n (pc := 103) 7 dX1_deniedBy_103 rfl rfl ?_
            refine g_iload (pc := 104) 0 dX1_deniedBy_104 rfl ?_
            refine g_iconst (pc := 106) (4) dX1_deniedBy_106 (by decide) ?_
            refine g_iload (pc := 107) 8 dX1_deniedBy_107 rfl ?_
            refine g_imul (pc := 109) dX1_deniedBy_109 ?_
            refine g_ishl (pc := 110) dX1_deniedBy_110 ?_
            refine g_ior (pc := 111) dX1_deniedBy_111 ?_
            refine g_nmi (fun x17 => ?_)
            refine g_istore_n (pc := 112) (lv' := [(3, .int x17), (9, .int x16), (8, .int x3), (7, .int x2), (6, .int x1), (5, .int r1), (1, .int bits), (2, .int memory), (4, .int y2)]) dX1_deniedBy_112 rfl (Nat.le_of_ble_eq_true rfl) rfl ?_
            refine g_iinc (pc := 113) (j := 8) (1) (lf := fun x18 => [(4, .int x18), (3, .int x17), (9, .int x16), (8, .int x3), (7, .int x2), (6, .int x1), (5, .int r1), (1, .int bits), (2, .int memory)]) dX1_deniedBy_113 rfl (by decide) (Nat.le_of_ble_eq_true rfl) (fun _ => rfl) (fun x18 => ?_)
            refine g_goto (pc := 116) 5 dX1_deniedBy_116 (by decide) ?_
            exact g_sub [7, 8, 1, 0] rfl (ih5 (x17, x18))
      · refine g_iconst (pc := 56) (0) dX1_deniedBy_56 (by decide) ?_
        refine g_goto (pc := 57) 65 dX1_deniedBy_57 (by decide) ?_
        refine g_istore (pc := 65) (lv' := [(9, .int (0 : Int32)), (8, .int x3), (7, .int x2), (6, .int x1), (5, .int r1), (1, .int bits), (2, .int memory), (3, .int y1), (4, .int y2)]) dX1_deniedBy_65 (Nat.le_of_ble_eq_true rfl) rfl ?_
        refine g_iload (pc := 67) 0 dX1_deniedBy_67 rfl ?_
        refine g_iload (pc := 69) 1 dX1_deniedBy_69 rfl ?_
        refine g_iconst (pc := 71) (2) dX1_deniedBy_71 (by decide) ?_
        refine g_iand (pc := 72) dX1_deniedBy_72 ?_
        refine g_if_ne (pc := 73) 80 dX1_deniedBy_73 (by decide) ?_ ?_
        · refine g_iload (pc := 80) 2 dX1_deniedBy_80 rfl ?_
          refine g_ior (pc := 82) dX1_deniedBy_82 ?_
          refine g_nmi (fun x19 => ?_)
          refine g_istore (pc := 83) (lv' := [(9, .int x19), (8, .int x3), (7, .int x2), (6, .int x1), (5, .int r1), (1, .int bits), (2, .int memory), (3, .int y1), (4, .int y2)]) dX1_deniedBy_83 (Nat.le_of_ble_eq_true rfl) rfl ?_
          refine g_iload (pc := 85) 0 dX1_deniedBy_85 rfl ?_
          refine g_iload (pc := 87) 1 dX1_deniedBy_87 rfl ?_
          refine g_iconst (pc := 89) (4) dX1_deniedBy_89 (by decide) ?_
          refine g_iand (pc := 90) dX1_deniedBy_90 ?_
          refine g_if_ne (pc := 91) 98 dX1_deniedBy_91 (by decide) ?_ ?_
          · refine g_iload (pc := 98) 3 dX1_deniedBy_98 rfl ?_
            refine g_ior (pc := 100) dX1_deniedBy_100 ?_
            refine g_nmi (fun x20 => ?_)
            refine g_istore (pc := 101) (lv' := [(9, .int x20), (8, .int x3), (7, .int x2), (6, .int x1), (5, .int r1), (1, .int bits), (2, .int memory), (3, .int y1), (4, .int y2)]) dX1_deniedBy_101 (Nat.le_of_ble_eq_true rfl) rfl ?_
            refine g_iload_n (pc := 103) 7 dX1_deniedBy_103 rfl rfl ?_
            refine g_iload (pc := 104) 0 dX1_deniedBy_104 rfl ?_
            refine g_iconst (pc := 106) (4) dX1_deniedBy_106 (by decide) ?_
            refine g_iload (pc := 107) 8 dX1_deniedBy_107 rfl ?_
            refine g_imul (pc := 109) dX1_deniedBy_109 ?_
            refine g_ishl (pc := 110) dX1_deniedBy_110 ?_
            refine g_ior (pc := 111) dX1_deniedBy_111 ?_
            refine g_nmi (fun x21 => ?_)
            refine g_istore_n (pc := 112) (lv' := [(3, .int x21), (9, .int x20), (8, .int x3), (7, .int x2), (6, .int x1), (5, .int r1), (1, .int bits), (2, .int memory), (4, .int y2)]) dX1_deniedBy_112 rfl (Nat.le_of_ble_eq_true rfl) rfl ?_
            refine g_iinc (pc := 113) (j := 8) (1) (lf := fun x22 => [(4, .int x22), (3, .int x21), (9, .int x20), (8, .int x3), (7, .int x2), (6, .int x1), (5, .int r1), (1, .int bits), (2, .int memory)]) dX1_deniedBy_113 rfl (by decide) (Nat.le_of_ble_eq_true rfl) (fun _ => rfl) (fun x22 => ?_)
            refine g_goto (pc := 116) 5 dX1_deniedBy_116 (by decide) ?_
            exact g_sub [7, 8, 1, 0] rfl (ih5 (x21, x22))
          · refine g_iconst (pc := 94) (0) dX1_deniedBy_94 (by decide) ?_
            refine g_goto (pc := 95) 100 dX1_deniedBy_95 (by decide) ?_
            refine g_ior (pc := 100) dX1_deniedBy_100 ?_
            refine g_nmi (fun x23 => ?_)
            refine g_istore (pc := 101) (lv' := [(9, .int x23), (8, .int x3), (7, .int x2), (6, .int x1), (5, .int r1), (1, .int bits), (2, .int memory), (3, .int y1), (4, .int y2)]) dX1_deniedBy_101 (Nat.le_of_ble_eq_true rfl) rfl ?_
            refine g_iload_n (pc := 103) 7 dX1_deniedBy_103 rfl rfl ?_
            refine g_iload (pc := 104) 0 dX1_deniedBy_104 rfl ?_
            refine g_iconst (pc := 106) (4) dX1_deniedBy_106 (by decide) ?_
            refine g_iload (pc := 107) 8 dX1_deniedBy_107 rfl ?_
            refine g_imul (pc := 109) dX1_deniedBy_109 ?_
            refine g_ishl (pc := 110) dX1_deniedBy_110 ?_
            refine g_ior (pc := 111) dX1_deniedBy_111 ?_
            refine g_nmi (fun x24 => ?_)
            refine g_istore_n (pc := 112) (lv' := [(3, .int x24), (9, .int x23), (8, .int x3), (7, .int x2), (6, .int x1), (5, .int r1), (1, .int bits), (2, .int memory), (4, .int y2)]) dX1_deniedBy_112 rfl (Nat.le_of_ble_eq_true rfl) rfl ?_
            refine g_iinc (pc := 113) (j := 8) (1) (lf := fun x25 => [(4, .int x25), (3, .int x24), (9, .int x23), (8, .int x3), (7, .int x2), (6, .int x1), (5, .int r1), (1, .int bits), (2, .int memory)]) dX1_deniedBy_113 rfl (by decide) (Nat.le_of_ble_eq_true rfl) (fun _ => rfl) (fun x25 => ?_)
            refine g_goto (pc := 116) 5 dX1_deniedBy_116 (by decide) ?_
            exact g_sub [7, 8, 1, 0] rfl (ih5 (x24, x25))
        · refine g_iconst (pc := 76) (0) dX1_deniedBy_76 (by decide) ?_
          refine g_goto (pc := 77) 82 dX1_deniedBy_77 (by decide) ?_
          refine g_ior (pc := 82) dX1_deniedBy_82 ?_
          refine g_nmi (fun x26 => ?_)
          refine g_istore (pc := 83) (lv' := [(9, .int x26), (8, .int x3), (7, .int x2), (6, .int x1), (5, .int r1), (1, .int bits), (2, .int memory), (3, .int y1), (4, .int y2)]) dX1_deniedBy_83 (Nat.le_of_ble_eq_true rfl) rfl ?_
          refine g_iload (pc := 85) 0 dX1_deniedBy_85 rfl ?_
          refine g_iload (pc := 87) 1 dX1_deniedBy_87 rfl ?_
          refine g_iconst (pc := 89) (4) dX1_deniedBy_89 (by decide) ?_
          refine g_iand (pc := 90) dX1_deniedBy_90 ?_
          refine g_if_ne (pc := 91) 98 dX1_deniedBy_91 (by decide) ?_ ?_
          · refine g_iload (pc := 98) 3 dX1_deniedBy_98 rfl ?_
            refine g_ior (pc := 100) dX1_deniedBy_100 ?_
            refine g_nmi (fun x27 => ?_)
            refine g_istore (pc := 101) (lv' := [(9, .int x27), (8, .int x3), (7, .int x2), (6, .int x1), (5, .int r1), (1, .int bits), (2, .int memory), (3, .int y1), (4, .int y2)]) dX1_deniedBy_101 (Nat.le_of_ble_eq_true rfl) rfl ?_
            refine g_iload_n (pc := 103) 7 dX1_deniedBy_103 rfl rfl ?_
            refine g_iload (pc := 104) 0 dX1_deniedBy_104 rfl ?_
            refine g_iconst (pc := 106) (4) dX1_deniedBy_106 (by decide) ?_
            refine g_iload (pc := 107) 8 dX1_deniedBy_107 rfl ?_
            refine g_imul (pc := 109) dX1_deniedBy_109 ?_
            refine g_ishl (pc := 110) dX1_deniedBy_110 ?_
            refine g_ior (pc := 111) dX1_deniedBy_111 ?_
            refine g_nmi (fun x28 => ?_)
            refine g_istore_n (pc := 112) (lv' := [(3, .int x28), (9, .int x27), (8, .int x3), (7, .int x2), (6, .int x1), (5, .int r1), (1, .int bits), (2, .int memory), (4, .int y2)]) dX1_deniedBy_112 rfl (Nat.le_of_ble_eq_true rfl) rfl ?_
            refine g_iinc (pc := 113) (j := 8) (1) (lf := fun x29 => [(4, .int x29), (3, .int x28), (9, .int x27), (8, .int x3), (7, .int x2), (6, .int x1), (5, .int r1), (1, .int bits), (2, .int memory)]) dX1_deniedBy_113 rfl (by decide) (Nat.le_of_ble_eq_true rfl) (fun _ => rfl) (fun x29 => ?_)
            refine g_goto (pc := 116) 5 dX1_deniedBy_116 (by decide) ?_
            exact g_sub [7, 8, 1, 0] rfl (ih5 (x28, x29))
          · refine g_iconst (pc := 94) (0) dX1_deniedBy_94 (by decide) ?_
            refine g_goto (pc := 95) 100 dX1_deniedBy_95 (by decide) ?_
            refine g_ior (pc := 100) dX1_deniedBy_100 ?_
            refine g_nmi (fun x30 => ?_)
            refine g_istore (pc := 101) (lv' := [(9, .int x30), (8, .int x3), (7, .int x2), (6, .int x1), (5, .int r1), (1, .int bits), (2, .int memory), (3, .int y1), (4, .int y2)]) dX1_deniedBy_101 (Nat.le_of_ble_eq_true rfl) rfl ?_
            refine g_iload_n (pc := 103) 7 dX1_deniedBy_103 rfl rfl ?_
            refine g_iload (pc := 104) 0 dX1_deniedBy_104 rfl ?_
            refine g_iconst (pc := 106) (4) dX1_deniedBy_106 (by decide) ?_
            refine g_iload (pc := 107) 8 dX1_deniedBy_107 rfl ?_
            refine g_imul (pc := 109) dX1_deniedBy_109 ?_
            refine g_ishl (pc := 110) dX1_deniedBy_110 ?_
            refine g_ior (pc := 111) dX1_deniedBy_111 ?_
            refine g_nmi (fun x31 => ?_)
            refine g_istore_n (pc := 112) (lv' := [(3, .int x31), (9, .int x30), (8, .int x3), (7, .int x2), (6, .int x1), (5, .int r1), (1, .int bits), (2, .int memory), (4, .int y2)]) dX1_deniedBy_112 rfl (Nat.le_of_ble_eq_true rfl) rfl ?_
            refine g_iinc (pc := 113) (j := 8) (1) (lf := fun x32 => [(4, .int x32), (3, .int x31), (9, .int x30), (8, .int x3), (7, .int x2), (6, .int x1), (5, .int r1), (1, .int bits), (2, .int memory)]) dX1_deniedBy_113 rfl (by decide) (Nat.le_of_ble_eq_true rfl) (fun _ => rfl) (fun x32 => ?_)
            refine g_goto (pc := 116) 5 dX1_deniedBy_116 (by decide) ?_
            exact g_sub [7, 8, 1, 0] rfl (ih5 (x31, x32))
def b_J7_fill_d0a16_6 (p0 : Nat) (n_p0 : Nat) (p1 : Int64) (x1 : Int32) : (Int32 × St) → Option ((Int32 × St) ⊕ (St)) := un fun y1 s1 => (if x1 ≤ y1 then some (.inr s1) else chk (inb y1 n_p0) (nm (stL s1 p0 y1.toNatClampNeg p1) fun s2 => nm (y1 + (1 : Int32)) fun x2 => some (.inl (x2, s2))))
def f_J7_fill_d0a16 (p0 : Nat) (n_p0 : Nat) (p1 : Int64) (σ : St) : Option (St) := nm (Int32.ofNat n_p0) fun x1 => (wh FU (b_J7_fill_d0a16_6 p0 n_p0 p1 x1) ((0 : Int32), σ)).bind (fun s3 => some s3)
abbrev rm_J7_fill_d0a16 : Room := { frames := 0, cells := 0, slots := 0, locals := 0 }
set_option maxHeartbeats 4000000 in
set_option maxRecDepth 20000 in
theorem m_J7_fill_d0a16 (l : Launch) (v : Vw) (σ : St) (p0 : Nat) (n_p0 : Nat) (p1 : Int64) (hp0 : LA v p0 n_p0) : ∀ res, f_J7_fill_d0a16 p0 n_p0 p1 σ = some res → MetX v l yJ7_fill_d0a16 cJ7_fill_d0a16 5 none rm_J7_fill_d0a16 [.ref ((vq v) p0), .long p1] σ (none, res) := by
  let fin_ : St → Option Value × St := fun r => (none, r)
  have hro : ∀ (z : St) (res : St), some z = some res → fin_ res = fin_ z := fun z res h => by cases h; rfl
  refine MetX.of1 (fin := fin_) (lv := [(0, .ref ((vq v) p0)), (1, .long p1)]) (by decide) (Nat.le_of_ble_eq_true rfl) rfl ?_
  unfold f_J7_fill_d0a16
  refine g_iconst (pc := 0) (0) dJ7_fill_d0a16_0 (by decide) ?_
  refine g_istore_n (pc := 1) (lv' := [(3, .int (0 : Int32)), (0, .ref ((vq v) p0)), (1, .long p1)]) dJ7_fill_d0a16_1 rfl (Nat.le_of_ble_eq_true rfl) rfl ?_
  refine g_aload_n (pc := 2) 1 dJ7_fill_d0a16_2 rfl rfl ?_
  refine a_llen (pc := 3) hp0 dJ7_fill_d0a16_3 ?_
  refine g_nmi (fun x1 => ?_)
  refine g_istore (pc := 4) (lv' := [(4, .int x1), (3, .int (0 : Int32)), (0, .ref ((vq v) p0)), (1, .long p1)]) dJ7_fill_d0a16_4 (Nat.le_of_ble_eq_true rfl) rfl ?_
  refine g_sub [2, 3, 1, 0] rfl ?_
  refine g_wh2 (pc := 6) (s0 := ((0 : Int32), σ)) (fun (w_ : Int32 × St) => w_.2) (fun (w_ : Int32 × St) => [(0, .ref ((vq v) p0)), (1, .long p1), (3, .int w_.1), (4, .int x1)]) (fun (w_ : St) => w_) (fun (w_ : St) => []) 22 ?_ ?_
  · rintro s3
    try dsimp only [un, Sum.elim_inl]
    exact g_vret (pc := 22) (hro _) rfl dJ7_fill_d0a16_22
  · intro K6 hx6 ih6
    rintro ⟨y1, s1⟩
    try dsimp only [b_J7_fill_d0a16_6, un]
    refine g_iload_n (pc := 6) 2 dJ7_fill_d0a16_6 rfl rfl ?_
    refine g_iload (pc := 7) 3 dJ7_fill_d0a16_7 rfl ?_
    refine g_icmp_ge (pc := 9) 22 dJ7_fill_d0a16_9 (by decide) ?_ ?_
    · exact g_sub [] rfl (hx6 s1)
    · refine g_aload_n (pc := 12) 0 dJ7_fill_d0a16_12 rfl rfl ?_
      refine g_iload_n (pc := 13) 2 dJ7_fill_d0a16_13 rfl rfl ?_
      refine g_lload_n (pc := 14) 1 dJ7_fill_d0a16_14 rfl rfl ?_
      refine a_lst (pc := 15) hp0 dJ7_fill_d0a16_15 (fun s2 => ?_)
      refine g_iinc (pc := 16) (j := 2) (1) (lf := fun x2 => [(3, .int x2), (0, .ref ((vq v) p0)), (1, .long p1), (4, .int x1)]) dJ7_fill_d0a16_16 rfl (by decide) (Nat.le_of_ble_eq_true rfl) (fun _ => rfl) (fun x2 => ?_)
      refine g_goto (pc := 19) 6 dJ7_fill_d0a16_19 (by decide) ?_
      exact g_sub [1, 2, 0, 3] rfl (ih6 (x2, s2))
def f_X4_stateAt (pa : Nat) (line : Int32) (memory : Int32) (σ : St) : Option (Int32) := (if line < (σ.1 pa 5) then some ((line * (256 : Int32)) + memory) else some (((12 : Int32) * (256 : Int32)) + memory))
abbrev rm_X4_stateAt : Room := { frames := 0, cells := 0, slots := 0, locals := 0 }
set_option maxHeartbeats 4000000 in
set_option maxRecDepth 20000 in
theorem m_X4_stateAt (l : Launch) (D : va_G) (cy : Cy) (q : Nat → Nat) (σ : St) (pa : Nat) (line : Int32) (memory : Int32) (hpa : isP pa) : ∀ res, f_X4_stateAt pa line memory σ = some res → MetX (vX D cy q) l yX4_stateAt cX4_stateAt 3 (some .int) rm_X4_stateAt [.ref (q pa), .int line, .int memory] σ (some (.int res), σ) := by
  let fin_ : Int32 → Option Value × St := fun r => (some (.int r), σ)
  have hro : ∀ (z : Int32) (res : Int32), some z = some res → fin_ res = fin_ z := fun z res h => by cases h; rfl
  refine MetX.of1 (fin := fin_) (lv := [(0, .ref (q pa)), (1, .int line), (2, .int memory)]) (by decide) (Nat.le_of_ble_eq_true rfl) rfl ?_
  unfold f_X4_stateAt
  refine g_iload_n (pc := 0) 1 dX4_stateAt_0 rfl rfl ?_
  refine g_aload_n (pc := 1) 0 dX4_stateAt_1 rfl rfl ?_
  refine gf_4_size (pc := 2) hpa kf_X4_28 dX4_stateAt_2 ?_
  refine g_icmp_lt (pc := 5) 13 dX4_stateAt_5 (by decide) ?_ ?_
  · refine g_iload_n (pc := 13) 1 dX4_stateAt_13 rfl rfl ?_
    refine g_sipush (pc := 14) (256) dX4_stateAt_14 (by decide) ?_
    refine g_imul (pc := 17) dX4_stateAt_17 ?_
    refine g_iload_n (pc := 18) 2 dX4_stateAt_18 rfl rfl ?_
    refine g_iadd (pc := 19) dX4_stateAt_19 ?_
    exact g_iret (pc := 20) (hro _) rfl dX4_stateAt_20
  · refine g_bipush (pc := 8) (12) dX4_stateAt_8 (by decide) ?_
    refine g_goto (pc := 10) 14 dX4_stateAt_10 (by decide) ?_
    refine g_sipush (pc := 14) (256) dX4_stateAt_14 (by decide) ?_
    refine g_imul (pc := 17) dX4_stateAt_17 ?_
    refine g_iload_n (pc := 18) 2 dX4_stateAt_18 rfl rfl ?_
    refine g_iadd (pc := 19) dX4_stateAt_19 ?_
    exact g_iret (pc := 20) (hro _) rfl dX4_stateAt_20
def f_X2_isSeen (point : Int32) (σ : St) : Option (Int32) := chk (nz (64 : Int32)) (chk (inb (point / (64 : Int32)) 676) (chk (nz (64 : Int32)) ((if (lg_cmp (((σ.2 86 (point / (64 : Int32)).toNatClampNeg) >>> ((point - point / (64 : Int32) * (64 : Int32)).toInt64 &&& 63)) &&& (1 : Int64)) (0 : Int64)) = (0 : Int32) then some (0 : Int32) else some (1 : Int32)))))
abbrev rm_X2_isSeen : Room := { frames := 0, cells := 0, slots := 0, locals := 0 }
set_option maxHeartbeats 4000000 in
set_option maxRecDepth 20000 in
theorem m_X2_isSeen (l : Launch) (D : va_G) (cy : Cy) (q : Nat → Nat) (σ : St) (point : Int32)  : ∀ res, f_X2_isSeen point σ = some res → MetX (vX D cy q) l yX2_isSeen cX2_isSeen 2 (some .boolean) rm_X2_isSeen [.ref (q 84), .int point] σ (some (.int res), σ) := by
  let fin_ : Int32 → Option Value × St := fun r => (some (.int r), σ)
  have hro : ∀ (z : Int32) (res : Int32), some z = some res → fin_ res = fin_ z := fun z res h => by cases h; rfl
  refine MetX.of1 (fin := fin_) (lv := [(0, .ref (q 84)), (1, .int point)]) (by decide) (Nat.le_of_ble_eq_true rfl) rfl ?_
  unfold f_X2_isSeen
  refine g_aload_n (pc := 0) 0 dX2_isSeen_0 rfl rfl ?_
  refine gf_2_seen (pc := 1) kf_X2_23 dX2_isSeen_1 ?_
  refine g_iload_n (pc := 4) 1 dX2_isSeen_4 rfl rfl ?_
  refine g_bipush (pc := 5) (64) dX2_isSeen_5 (by decide) ?_
  refine g_idiv (pc := 7) dX2_isSeen_7 ?_
  refine a_lld (pc := 8) aX_2_seen dX2_isSeen_8 ?_
  refine g_iload_n (pc := 9) 1 dX2_isSeen_9 rfl rfl ?_
  refine g_bipush (pc := 10) (64) dX2_isSeen_10 (by decide) ?_
  refine g_irem (pc := 12) dX2_isSeen_12 ?_
  refine g_lshr (pc := 13) dX2_isSeen_13 ?_
  refine g_lconst (pc := 14) (1) dX2_isSeen_14 (by decide) ?_
  refine g_land (pc := 15) dX2_isSeen_15 ?_
  refine g_lconst (pc := 16) (0) dX2_isSeen_16 (by decide) ?_
  refine g_lcmp (pc := 17) dX2_isSeen_17 ?_
  refine g_if_eq (pc := 18) 25 dX2_isSeen_18 (by decide) ?_ ?_
  · refine g_iconst (pc := 25) (0) dX2_isSeen_25 (by decide) ?_
    exact g_zret (pc := 26) rfl (hro _) rfl dX2_isSeen_26
  · refine g_iconst (pc := 21) (1) dX2_isSeen_21 (by decide) ?_
    refine g_goto (pc := 22) 26 dX2_isSeen_22 (by decide) ?_
    exact g_zret (pc := 26) rfl (hro _) rfl dX2_isSeen_26
def f_X2_add (one : Int32) (two : Int32) (memory : Int32) (σ : St) : Option (St) := nm ((((one * (13 : Int32)) + two) * (256 : Int32)) + memory) fun x1 => (if x1 < (0 : Int32) then some σ else (if (43264 : Int32) ≤ x1 then some σ else (if (43264 : Int32) ≤ (σ.1 84 2) then some σ else (f_X2_isSeen x1 σ).bind fun r1 => (if r1 = (0 : Int32) then chk (nz (64 : Int32)) (chk (inb (x1 / (64 : Int32)) 676) (chk (nz (64 : Int32)) (chk (inb (x1 / (64 : Int32)) 676) (nm (stL σ 86 (x1 / (64 : Int32)).toNatClampNeg ((σ.2 86 (x1 / (64 : Int32)).toNatClampNeg) ||| ((1 : Int64) <<< ((x1 - x1 / (64 : Int32) * (64 : Int32)).toInt64 &&& 63)))) fun s1 => chk (inb (s1.1 84 2) 43264) (nm (stI s1 85 (s1.1 84 2).toNatClampNeg x1) fun s2 => nm (stI s2 84 2 ((s2.1 84 2) + (1 : Int32))) fun s3 => some s3))))) else some σ))))
abbrev rm_X2_add : Room := { frames := 1, cells := 0, slots := 0, locals := 21 }
set_option maxHeartbeats 4000000 in
set_option maxRecDepth 20000 in
theorem m_X2_add (l : Launch) (D : va_G) (cy : Cy) (q : Nat → Nat) (σ : St) (one : Int32) (two : Int32) (memory : Int32)  : ∀ res, f_X2_add one two memory σ = some res → MetX (vX D cy q) l yX2_add cX2_add 5 none rm_X2_add [.ref (q 84), .int one, .int two, .int memory] σ (none, res) := by
  let fin_ : St → Option Value × St := fun r => (none, r)
  have hro : ∀ (z : St) (res : St), some z = some res → fin_ res = fin_ z := fun z res h => by cases h; rfl
  refine MetX.of1 (fin := fin_) (lv := [(0, .ref (q 84)), (1, .int one), (2, .int two), (3, .int memory)]) (by decide) (Nat.le_of_ble_eq_true rfl) rfl ?_
  unfold f_X2_add
  refine g_iload_n (pc := 0) 1 dX2_add_0 rfl rfl ?_
  refine g_bipush (pc := 1) (13) dX2_add_1 (by decide) ?_
  refine g_imul (pc := 3) dX2_add_3 ?_
  refine g_iload_n (pc := 4) 2 dX2_add_4 rfl rfl ?_
  refine g_iadd (pc := 5) dX2_add_5 ?_
  refine g_sipush (pc := 6) (256) dX2_add_6 (by decide) ?_
  refine g_imul (pc := 9) dX2_add_9 ?_
  refine g_iload_n (pc := 10) 3 dX2_add_10 rfl rfl ?_
  refine g_iadd (pc := 11) dX2_add_11 ?_
  refine g_nmi (fun x1 => ?_)
  refine g_istore (pc := 12) (lv' := [(4, .int x1), (0, .ref (q 84)), (1, .int one), (2, .int two), (3, .int memory)]) dX2_add_12 (Nat.le_of_ble_eq_true rfl) rfl ?_
  refine g_iload (pc := 14) 0 dX2_add_14 rfl ?_
  refine g_if_lt (pc := 16) 44 dX2_add_16 (by decide) ?_ ?_
  · exact g_vret (pc := 44) (hro _) rfl dX2_add_44
  · refine g_iload (pc := 19) 0 dX2_add_19 rfl ?_
    refine g_ldc (pc := 21) dX2_add_21 ki_X2_15 ?_
    refine g_icmp_ge (pc := 23) 44 dX2_add_23 (by decide) ?_ ?_
    · exact g_vret (pc := 44) (hro _) rfl dX2_add_44
    · refine g_aload_n (pc := 26) 1 dX2_add_26 rfl rfl ?_
      refine gf_2_reached (pc := 27) kf_X2_20 dX2_add_27 ?_
      refine g_ldc (pc := 30) dX2_add_30 ki_X2_15 ?_
      refine g_icmp_ge (pc := 32) 44 dX2_add_32 (by decide) ?_ ?_
      · exact g_vret (pc := 44) (hro _) rfl dX2_add_44
      · refine g_aload_n (pc := 35) 1 dX2_add_35 rfl rfl ?_
        refine g_iload (pc := 36) 0 dX2_add_36 rfl ?_
        refine gV_i (pc := 38) [.int x1] [] (m_X2_isSeen l D cy q σ x1) cw_X2_isSeen km_X2_46 ⟨rfl, rfl, by decide, by decide⟩ (Nat.le_of_ble_eq_true rfl) (eX_2 (cy := cy) (σ.1 84) (σ.2 84)) rfl dX2_add_38 rfl rfl (Nat.le_of_ble_eq_true rfl) (fun r1 => ?_)
        refine g_if_eq (pc := 41) 45 dX2_add_41 (by decide) ?_ ?_
        · refine g_aload_n (pc := 45) 1 dX2_add_45 rfl rfl ?_
          refine gf_2_seen (pc := 46) kf_X2_23 dX2_add_46 ?_
          refine g_iload (pc := 49) 0 dX2_add_49 rfl ?_
          refine g_bipush (pc := 51) (64) dX2_add_51 (by decide) ?_
          refine g_idiv (pc := 53) dX2_add_53 ?_
          refine g_dup2 (pc := 54) dX2_add_54 rfl rfl ?_
          refine a_lld (pc := 55) aX_2_seen dX2_add_55 ?_
          refine g_lconst (pc := 56) (1) dX2_add_56 (by decide) ?_
          refine g_iload (pc := 57) 0 dX2_add_57 rfl ?_
          refine g_bipush (pc := 59) (64) dX2_add_59 (by decide) ?_
          refine g_irem (pc := 61) dX2_add_61 ?_
          refine g_lshl (pc := 62) dX2_add_62 ?_
          refine g_lor (pc := 63) dX2_add_63 ?_
          refine a_lst (pc := 64) aX_2_seen dX2_add_64 (fun s1 => ?_)
          refine g_aload_n (pc := 65) 1 dX2_add_65 rfl rfl ?_
          refine gf_2_queue (pc := 66) kf_X2_16 dX2_add_66 ?_
          refine g_aload_n (pc := 69) 1 dX2_add_69 rfl rfl ?_
          refine gf_2_reached (pc := 70) kf_X2_20 dX2_add_70 ?_
          refine g_iload (pc := 73) 0 dX2_add_73 rfl ?_
          refine a_ist (pc := 75) aX_2_queue dX2_add_75 (fun s2 => ?_)
          refine g_aload_n (pc := 76) 1 dX2_add_76 rfl rfl ?_
          refine g_dup (pc := 77) dX2_add_77 rfl ?_
          refine gf_2_reached (pc := 78) kf_X2_20 dX2_add_78 ?_
          refine g_iconst (pc := 81) (1) dX2_add_81 (by decide) ?_
          refine g_iadd (pc := 82) dX2_add_82 ?_
          refine gp_2_reached (pc := 83) kf_X2_20 dX2_add_83 (fun s3 => ?_)
          exact g_vret (pc := 86) (hro _) rfl dX2_add_86
        · exact g_vret (pc := 44) (hro _) rfl dX2_add_44
def f_X8_withValue (memory : Int32) (variable_ : Int32) (value : Int32) : Option (Int32) := nm ((6 : Int32) - ((2 : Int32) * variable_)) fun x1 => some ((memory &&& (((3 : Int32) <<< (x1 &&& 31)) ^^^ (-1 : Int32))) ||| ((value &&& (3 : Int32)) <<< (x1 &&& 31)))
abbrev rm_X8_withValue : Room := { frames := 0, cells := 0, slots := 0, locals := 0 }
set_option maxHeartbeats 4000000 in
set_option maxRecDepth 20000 in
theorem m_X8_withValue (l : Launch) (D : va_G) (cy : Cy) (q : Nat → Nat) (σ : St) (memory : Int32) (variable_ : Int32) (value : Int32)  : ∀ res, f_X8_withValue memory variable_ value = some res → MetX (vX D cy q) l yX8_withValue cX8_withValue 4 (some .int) rm_X8_withValue [.int memory, .int variable_, .int value] σ (some (.int res), σ) := by
  let fin_ : Int32 → Option Value × St := fun r => (some (.int r), σ)
  have hro : ∀ (z : Int32) (res : Int32), some z = some res → fin_ res = fin_ z := fun z res h => by cases h; rfl
  refine MetX.of1 (fin := fin_) (lv := [(0, .int memory), (1, .int variable_), (2, .int value)]) (by decide) (Nat.le_of_ble_eq_true rfl) rfl ?_
  unfold f_X8_withValue
  refine g_bipush (pc := 0) (6) dX8_withValue_0 (by decide) ?_
  refine g_iconst (pc := 2) (2) dX8_withValue_2 (by decide) ?_
  refine g_iload_n (pc := 3) 1 dX8_withValue_3 rfl rfl ?_
  refine g_imul (pc := 4) dX8_withValue_4 ?_
  refine g_isub (pc := 5) dX8_withValue_5 ?_
  refine g_nmi (fun x1 => ?_)
  refine g_istore_n (pc := 6) (lv' := [(3, .int x1), (0, .int memory), (1, .int variable_), (2, .int value)]) dX8_withValue_6 rfl (Nat.le_of_ble_eq_true rfl) rfl ?_
  refine g_iload_n (pc := 7) 1 dX8_withValue_7 rfl rfl ?_
  refine g_iconst (pc := 8) (3) dX8_withValue_8 (by decide) ?_
  refine g_iload_n (pc := 9) 0 dX8_withValue_9 rfl rfl ?_
  refine g_ishl (pc := 10) dX8_withValue_10 ?_
  refine g_iconst (pc := 11) (-1) dX8_withValue_11 (by decide) ?_
  refine g_ixor (pc := 12) dX8_withValue_12 ?_
  refine g_iand (pc := 13) dX8_withValue_13 ?_
  refine g_iload_n (pc := 14) 3 dX8_withValue_14 rfl rfl ?_
  refine g_iconst (pc := 15) (3) dX8_withValue_15 (by decide) ?_
  refine g_iand (pc := 16) dX8_withValue_16 ?_
  refine g_iload_n (pc := 17) 0 dX8_withValue_17 rfl rfl ?_
  refine g_ishl (pc := 18) dX8_withValue_18 ?_
  refine g_ior (pc := 19) dX8_withValue_19 ?_
  exact g_iret (pc := 20) (hro _) rfl dX8_withValue_20
