def f_X8_told (what : Int32) (σ : St) : Option (Int32) := (if what = (0 : Int32) then some (σ.1 87 2) else (if what = (1 : Int32) then some (σ.1 69 1) else (f_X8_isProgram (what - (10 : Int32))).bind fun r1 => (if r1 = (0 : Int32) then (f_X8_isProgram (what - (20 : Int32))).bind fun r2 => (if r2 = (0 : Int32) then some (-2 : Int32) else chk (inb (what - (20 : Int32)) 4) (nm (4 + 13 * (what - (20 : Int32)).toNatClampNeg) fun k1 => some (σ.1 k1 6))) else chk (inb (what - (10 : Int32)) 4) (nm (4 + 13 * (what - (10 : Int32)).toNatClampNeg) fun k2 => some (σ.1 k2 5)))))
abbrev rm_X8_told : Room := { frames := 2, cells := 0, slots := 0, locals := 41 }
set_option maxHeartbeats 4000000 in
set_option maxRecDepth 20000 in
theorem m_X8_told (l : Launch) (D : va_G) (cy : Cy) (q : Nat → Nat) (σ : St) (what : Int32)  : ∀ res, f_X8_told what σ = some res → MetX (vX D cy q) l yX8_told cX8_told 2 (some .int) rm_X8_told [.ref (q 87), .int what] σ (some (.int res), σ) := by
  let fin_ : Int32 → Option Value × St := fun r => (some (.int r), σ)
  have hro : ∀ (z : Int32) (res : Int32), some z = some res → fin_ res = fin_ z := fun z res h => by cases h; rfl
  refine MetX.of1 (fin := fin_) (lv := [(0, .ref (q 87)), (1, .int what)]) (by decide) (Nat.le_of_ble_eq_true rfl) rfl ?_
  unfold f_X8_told
  refine g_iload_n (pc := 0) 1 dX8_told_0 rfl rfl ?_
  refine g_if_ne (pc := 1) 9 dX8_told_1 (by decide) ?_ ?_
  · refine g_iload_n (pc := 9) 1 dX8_told_9 rfl rfl ?_
    refine g_iconst (pc := 10) (1) dX8_told_10 (by decide) ?_
    refine g_icmp_ne (pc := 11) 22 dX8_told_11 (by decide) ?_ ?_
    · refine g_iload_n (pc := 22) 1 dX8_told_22 rfl rfl ?_
      refine g_bipush (pc := 23) (10) dX8_told_23 (by decide) ?_
      refine g_isub (pc := 25) dX8_told_25 ?_
      refine gS_i (pc := 26) [.int (what - (10 : Int32))] [] (m_X8_isProgram l D cy q σ (what - (10 : Int32))) cw_X8_isProgram km_X8_73 ⟨rfl, rfl, by decide, by decide⟩ dX8_told_26 rfl rfl (Nat.le_of_ble_eq_true rfl) (fun r1 => ?_)
      refine g_if_eq (pc := 29) 45 dX8_told_29 (by decide) ?_ ?_
      · refine g_iload_n (pc := 45) 1 dX8_told_45 rfl rfl ?_
        refine g_bipush (pc := 46) (20) dX8_told_46 (by decide) ?_
        refine g_isub (pc := 48) dX8_told_48 ?_
        refine gS_i (pc := 49) [.int (what - (20 : Int32))] [] (m_X8_isProgram l D cy q σ (what - (20 : Int32))) cw_X8_isProgram km_X8_73 ⟨rfl, rfl, by decide, by decide⟩ dX8_told_49 rfl rfl (Nat.le_of_ble_eq_true rfl) (fun r2 => ?_)
        refine g_if_eq (pc := 52) 68 dX8_told_52 (by decide) ?_ ?_
        · refine g_bipush (pc := 68) (-2) dX8_told_68 (by decide) ?_
          exact g_iret (pc := 70) (hro _) rfl dX8_told_70
        · refine g_aload_n (pc := 55) 0 dX8_told_55 rfl rfl ?_
          refine gf_8_programs (pc := 56) kf_X8_14 dX8_told_56 ?_
          refine g_iload_n (pc := 59) 1 dX8_told_59 rfl rfl ?_
          refine g_bipush (pc := 60) (20) dX8_told_60 (by decide) ?_
          refine g_isub (pc := 62) dX8_told_62 ?_
          refine g_aald (pc := 63) (k := 3) (t0 := 3) (C0 := RX4) (fun j => 4 + 13 * j) (Nat.le_of_ble_eq_true rfl) rfl (fun _ => rfl) rfl dX8_told_63 (fun k1 h0 => ?_)
          have hk1 := isP_4 h0
          refine gf_4_hushed (pc := 64) hk1 kf_X8_103 dX8_told_64 ?_
          exact g_iret (pc := 67) (hro _) rfl dX8_told_67
      · refine g_aload_n (pc := 32) 0 dX8_told_32 rfl rfl ?_
        refine gf_8_programs (pc := 33) kf_X8_14 dX8_told_33 ?_
        refine g_iload_n (pc := 36) 1 dX8_told_36 rfl rfl ?_
        refine g_bipush (pc := 37) (10) dX8_told_37 (by decide) ?_
        refine g_isub (pc := 39) dX8_told_39 ?_
        refine g_aald (pc := 40) (k := 3) (t0 := 3) (C0 := RX4) (fun j => 4 + 13 * j) (Nat.le_of_ble_eq_true rfl) rfl (fun _ => rfl) rfl dX8_told_40 (fun k2 h0 => ?_)
        have hk2 := isP_4 h0
        refine gf_4_size (pc := 41) hk2 kf_X8_81 dX8_told_41 ?_
        exact g_iret (pc := 44) (hro _) rfl dX8_told_44
    · refine g_aload_n (pc := 14) 0 dX8_told_14 rfl rfl ?_
      refine gf_8_draft (pc := 15) kf_X8_32 dX8_told_15 ?_
      refine gf_5_size (pc := 18) isS_69 kf_X8_128 dX8_told_18 ?_
      exact g_iret (pc := 21) (hro _) rfl dX8_told_21
  · refine g_aload_n (pc := 4) 0 dX8_told_4 rfl rfl ?_
    refine gf_8_sayingCount (pc := 5) kf_X8_28 dX8_told_5 ?_
    exact g_iret (pc := 8) (hro _) rfl dX8_told_8
def f_X9_in (v_ : Int64) (low : Int64) (high : Int64) : Option (Int32) := (if (lg_cmp v_ low) < (0 : Int32) then some (0 : Int32) else (if (0 : Int32) < (lg_cmp v_ high) then some (0 : Int32) else some (1 : Int32)))
abbrev rm_X9_in : Room := { frames := 0, cells := 0, slots := 0, locals := 0 }
set_option maxHeartbeats 4000000 in
set_option maxRecDepth 20000 in
theorem m_X9_in (l : Launch) (D : va_G) (cy : Cy) (q : Nat → Nat) (σ : St) (v_ : Int64) (low : Int64) (high : Int64)  : ∀ res, f_X9_in v_ low high = some res → MetX (vM D cy q) l yX9_in cX9_in 6 (some .boolean) rm_X9_in [.long v_, .long low, .long high] σ (some (.int res), σ) := by
  let fin_ : Int32 → Option Value × St := fun r => (some (.int r), σ)
  have hro : ∀ (z : Int32) (res : Int32), some z = some res → fin_ res = fin_ z := fun z res h => by cases h; rfl
  refine MetX.of1 (fin := fin_) (lv := [(0, .long v_), (2, .long low), (4, .long high)]) (by decide) (Nat.le_of_ble_eq_true rfl) rfl ?_
  unfold f_X9_in
  refine g_lload_n (pc := 0) 0 dX9_in_0 rfl rfl ?_
  refine g_lload_n (pc := 1) 1 dX9_in_1 rfl rfl ?_
  refine g_lcmp (pc := 2) dX9_in_2 ?_
  refine g_if_lt (pc := 3) 17 dX9_in_3 (by decide) ?_ ?_
  · refine g_iconst (pc := 17) (0) dX9_in_17 (by decide) ?_
    exact g_zret (pc := 18) rfl (hro _) rfl dX9_in_18
  · refine g_lload_n (pc := 6) 0 dX9_in_6 rfl rfl ?_
    refine g_lload (pc := 7) 2 dX9_in_7 rfl ?_
    refine g_lcmp (pc := 9) dX9_in_9 ?_
    refine g_if_gt (pc := 10) 17 dX9_in_10 (by decide) ?_ ?_
    · refine g_iconst (pc := 17) (0) dX9_in_17 (by decide) ?_
      exact g_zret (pc := 18) rfl (hro _) rfl dX9_in_18
    · refine g_iconst (pc := 13) (1) dX9_in_13 (by decide) ?_
      refine g_goto (pc := 14) 18 dX9_in_14 (by decide) ?_
      exact g_zret (pc := 18) rfl (hro _) rfl dX9_in_18
def b_X9_ones_4 (bits : Int32) : (Int32 × Int32) → Option ((Int32 × Int32) ⊕ (Int32)) := un fun y1 y2 => (if (12 : Int32) ≤ y2 then some (.inr y1) else nm (y1 + ((bits >>> (y2 &&& 31)) &&& (1 : Int32))) fun x1 => nm (y2 + (1 : Int32)) fun x2 => some (.inl (x1, x2)))
def f_X9_ones (bits : Int32) : Option (Int32) := (wh FU (b_X9_ones_4 bits) ((0 : Int32), (0 : Int32))).bind (fun z1 => some z1)
abbrev rm_X9_ones : Room := { frames := 0, cells := 0, slots := 0, locals := 0 }
set_option maxHeartbeats 4000000 in
set_option maxRecDepth 20000 in
theorem m_X9_ones (l : Launch) (D : va_G) (cy : Cy) (q : Nat → Nat) (σ : St) (bits : Int32)  : ∀ res, f_X9_ones bits = some res → MetX (vM D cy q) l yX9_ones cX9_ones 3 (some .int) rm_X9_ones [.int bits] σ (some (.int res), σ) := by
  let fin_ : Int32 → Option Value × St := fun r => (some (.int r), σ)
  have hro : ∀ (z : Int32) (res : Int32), some z = some res → fin_ res = fin_ z := fun z res h => by cases h; rfl
  refine MetX.of1 (fin := fin_) (lv := [(0, .int bits)]) (by decide) (Nat.le_of_ble_eq_true rfl) rfl ?_
  unfold f_X9_ones
  refine g_iconst (pc := 0) (0) dX9_ones_0 (by decide) ?_
  refine g_istore_n (pc := 1) (lv' := [(1, .int (0 : Int32)), (0, .int bits)]) dX9_ones_1 rfl (Nat.le_of_ble_eq_true rfl) rfl ?_
  refine g_iconst (pc := 2) (0) dX9_ones_2 (by decide) ?_
  refine g_istore_n (pc := 3) (lv' := [(2, .int (0 : Int32)), (1, .int (0 : Int32)), (0, .int bits)]) dX9_ones_3 rfl (Nat.le_of_ble_eq_true rfl) rfl ?_
  refine g_sub [2, 1, 0] rfl ?_
  refine g_wh2 (pc := 4) (s0 := ((0 : Int32), (0 : Int32))) (fun (w_ : Int32 × Int32) => σ) (fun (w_ : Int32 × Int32) => [(0, .int bits), (1, .int w_.1), (2, .int w_.2)]) (fun (w_ : Int32) => σ) (fun (w_ : Int32) => [(1, .int w_)]) 24 ?_ ?_
  · rintro z1
    try dsimp only [un, Sum.elim_inl]
    refine g_iload_n (pc := 24) 0 dX9_ones_24 rfl rfl ?_
    exact g_iret (pc := 25) (hro _) rfl dX9_ones_25
  · intro K4 hx4 ih4
    rintro ⟨y1, y2⟩
    try dsimp only [b_X9_ones_4, un]
    refine g_iload_n (pc := 4) 2 dX9_ones_4 rfl rfl ?_
    refine g_bipush (pc := 5) (12) dX9_ones_5 (by decide) ?_
    refine g_icmp_ge (pc := 7) 24 dX9_ones_7 (by decide) ?_ ?_
    · exact g_sub [1] rfl (hx4 y1)
    · refine g_iload_n (pc := 10) 1 dX9_ones_10 rfl rfl ?_
      refine g_iload_n (pc := 11) 0 dX9_ones_11 rfl rfl ?_
      refine g_iload_n (pc := 12) 2 dX9_ones_12 rfl rfl ?_
      refine g_ishr (pc := 13) dX9_ones_13 ?_
      refine g_iconst (pc := 14) (1) dX9_ones_14 (by decide) ?_
      refine g_iand (pc := 15) dX9_ones_15 ?_
      refine g_iadd (pc := 16) dX9_ones_16 ?_
      refine g_nmi (fun x1 => ?_)
      refine g_istore_n (pc := 17) (lv' := [(1, .int x1), (0, .int bits), (2, .int y2)]) dX9_ones_17 rfl (Nat.le_of_ble_eq_true rfl) rfl ?_
      refine g_iinc (pc := 18) (j := 2) (1) (lf := fun x2 => [(2, .int x2), (1, .int x1), (0, .int bits)]) dX9_ones_18 rfl (by decide) (Nat.le_of_ble_eq_true rfl) (fun _ => rfl) (fun x2 => ?_)
      refine g_goto (pc := 21) 4 dX9_ones_21 (by decide) ?_
      exact g_sub [2, 1, 0] rfl (ih4 (x1, x2))
def f_X9_isOther (p : Int32) (σ : St) : Option (St) := chk (inb p 4) (nm (stI σ 7 p.toNatClampNeg (0 : Int32)) fun s1 => nm (stI s1 0 7 ((s1.1 0 7) + (1 : Int32))) fun s2 => nm (stI s2 0 8 ((s2.1 0 8) + (1 : Int32))) fun s3 => some s3)
abbrev rm_X9_isOther : Room := { frames := 0, cells := 0, slots := 0, locals := 0 }
set_option maxHeartbeats 4000000 in
set_option maxRecDepth 20000 in
theorem m_X9_isOther (l : Launch) (D : va_G) (cy : Cy) (q : Nat → Nat) (σ : St) (p : Int32)  : ∀ res, f_X9_isOther p σ = some res → MetX (vM D cy q) l yX9_isOther cX9_isOther 2 none rm_X9_isOther [.ref (q 0), .int p] σ (none, res) := by
  let fin_ : St → Option Value × St := fun r => (none, r)
  have hro : ∀ (z : St) (res : St), some z = some res → fin_ res = fin_ z := fun z res h => by cases h; rfl
  refine MetX.of1 (fin := fin_) (lv := [(0, .ref (q 0)), (1, .int p)]) (by decide) (Nat.le_of_ble_eq_true rfl) rfl ?_
  unfold f_X9_isOther
  refine g_aload_n (pc := 0) 0 dX9_isOther_0 rfl rfl ?_
  refine gf_9_isLaid (pc := 1) kf_X9_28 dX9_isOther_1 ?_
  refine g_iload_n (pc := 4) 1 dX9_isOther_4 rfl rfl ?_
  refine g_iconst (pc := 5) (0) dX9_isOther_5 (by decide) ?_
  refine a_zst (pc := 6) aM_isLaid (by decide) dX9_isOther_6 (fun s1 => ?_)
  refine g_aload_n (pc := 7) 0 dX9_isOther_7 rfl rfl ?_
  refine g_dup (pc := 8) dX9_isOther_8 rfl ?_
  refine gf_9_version (pc := 9) kf_X9_93 dX9_isOther_9 ?_
  refine g_iconst (pc := 12) (1) dX9_isOther_12 (by decide) ?_
  refine g_iadd (pc := 13) dX9_isOther_13 ?_
  refine gp_9_version (pc := 14) kf_X9_93 dX9_isOther_14 (fun s2 => ?_)
  refine g_aload_n (pc := 17) 0 dX9_isOther_17 rfl rfl ?_
  refine g_dup (pc := 18) dX9_isOther_18 rfl ?_
  refine gf_9_walkVersion (pc := 19) kf_X9_96 dX9_isOther_19 ?_
  refine g_iconst (pc := 22) (1) dX9_isOther_22 (by decide) ?_
  refine g_iadd (pc := 23) dX9_isOther_23 ?_
  refine gp_9_walkVersion (pc := 24) kf_X9_96 dX9_isOther_24 (fun s3 => ?_)
  exact g_vret (pc := 27) (hro _) rfl dX9_isOther_27
def f_X9_isProgram (p : Int32) : Option (Int32) := (f_X9_in p.toInt64 (0 : Int64) (3 : Int64)).bind fun r1 => chk (isb r1) (some r1)
abbrev rm_X9_isProgram : Room := { frames := 1, cells := 0, slots := 0, locals := 25 }
set_option maxHeartbeats 4000000 in
set_option maxRecDepth 20000 in
theorem m_X9_isProgram (l : Launch) (D : va_G) (cy : Cy) (q : Nat → Nat) (σ : St) (p : Int32)  : ∀ res, f_X9_isProgram p = some res → MetX (vM D cy q) l yX9_isProgram cX9_isProgram 1 (some .boolean) rm_X9_isProgram [.int p] σ (some (.int res), σ) := by
  let fin_ : Int32 → Option Value × St := fun r => (some (.int r), σ)
  have hro : ∀ (z : Int32) (res : Int32), some z = some res → fin_ res = fin_ z := fun z res h => by cases h; rfl
  refine MetX.of1 (fin := fin_) (lv := [(0, .int p)]) (by decide) (Nat.le_of_ble_eq_true rfl) rfl ?_
  unfold f_X9_isProgram
  refine g_iload_n (pc := 0) 0 dX9_isProgram_0 rfl rfl ?_
  refine g_i2l (pc := 1) dX9_isProgram_1 ?_
  refine g_lconst (pc := 2) (0) dX9_isProgram_2 (by decide) ?_
  refine g_ldc2 (pc := 3) dX9_isProgram_3 kl_X9_99 ?_
  refine gS_i (pc := 6) [.long p.toInt64, .long (0 : Int64), .long (3 : Int64)] [] (m_X9_in l D cy q σ p.toInt64 (0 : Int64) (3 : Int64)) cw_X9_in km_X9_101 ⟨rfl, rfl, by decide, by decide⟩ dX9_isProgram_6 rfl rfl (Nat.le_of_ble_eq_true rfl) (fun r1 => ?_)
  exact g_chk fun hb => g_zret (pc := 9) hb (hro _) rfl dX9_isProgram_9
def f_X9_isVariable (v_ : Int32) : Option (Int32) := (f_X9_in v_.toInt64 (0 : Int64) (3 : Int64)).bind fun r1 => chk (isb r1) (some r1)
abbrev rm_X9_isVariable : Room := { frames := 1, cells := 0, slots := 0, locals := 25 }
set_option maxHeartbeats 4000000 in
set_option maxRecDepth 20000 in
theorem m_X9_isVariable (l : Launch) (D : va_G) (cy : Cy) (q : Nat → Nat) (σ : St) (v_ : Int32)  : ∀ res, f_X9_isVariable v_ = some res → MetX (vM D cy q) l yX9_isVariable cX9_isVariable 1 (some .boolean) rm_X9_isVariable [.int v_] σ (some (.int res), σ) := by
  let fin_ : Int32 → Option Value × St := fun r => (some (.int r), σ)
  have hro : ∀ (z : Int32) (res : Int32), some z = some res → fin_ res = fin_ z := fun z res h => by cases h; rfl
  refine MetX.of1 (fin := fin_) (lv := [(0, .int v_)]) (by decide) (Nat.le_of_ble_eq_true rfl) rfl ?_
  unfold f_X9_isVariable
  refine g_iload_n (pc := 0) 0 dX9_isVariable_0 rfl rfl ?_
  refine g_i2l (pc := 1) dX9_isVariable_1 ?_
  refine g_lconst (pc := 2) (0) dX9_isVariable_2 (by decide) ?_
  refine g_ldc2 (pc := 3) dX9_isVariable_3 kl_X9_99 ?_
  refine gS_i (pc := 6) [.long v_.toInt64, .long (0 : Int64), .long (3 : Int64)] [] (m_X9_in l D cy q σ v_.toInt64 (0 : Int64) (3 : Int64)) cw_X9_in km_X9_101 ⟨rfl, rfl, by decide, by decide⟩ dX9_isVariable_6 rfl rfl (Nat.le_of_ble_eq_true rfl) (fun r1 => ?_)
  exact g_chk fun hb => g_zret (pc := 9) hb (hro _) rfl dX9_isVariable_9
def f_X9_isLine (act : Int32) (a : Int32) (b : Int32) (c : Int32) : Option (Int32) := (if act = (0 : Int32) then (f_X9_isVariable a).bind fun r1 => (if r1 = (0 : Int32) then some (0 : Int32) else (f_X9_isVariable b).bind fun r2 => (if r2 = (0 : Int32) then some (0 : Int32) else (if c = (0 : Int32) then some (1 : Int32) else some (0 : Int32)))) else (if act = (1 : Int32) then (f_X9_isVariable a).bind fun r3 => (if r3 = (0 : Int32) then some (0 : Int32) else (f_X9_isVariable b).bind fun r4 => (if r4 = (0 : Int32) then some (0 : Int32) else (if c = (0 : Int32) then some (1 : Int32) else some (0 : Int32)))) else (if act = (2 : Int32) then (f_X9_isVariable a).bind fun r5 => (if r5 = (0 : Int32) then some (0 : Int32) else (f_X9_isVariable b).bind fun r6 => (if r6 = (0 : Int32) then some (0 : Int32) else (f_X9_isVariable c).bind fun r7 => (if r7 = (0 : Int32) then some (0 : Int32) else some (1 : Int32)))) else (if act = (3 : Int32) then (f_X9_isVariable a).bind fun r8 => (if r8 = (0 : Int32) then some (0 : Int32) else (f_X9_isVariable b).bind fun r9 => (if r9 = (0 : Int32) then some (0 : Int32) else (f_X9_isVariable c).bind fun r10 => (if r10 = (0 : Int32) then some (0 : Int32) else some (1 : Int32)))) else (if act = (4 : Int32) then (f_X9_isVariable a).bind fun r11 => (if r11 = (0 : Int32) then some (0 : Int32) else (f_X9_isVariable b).bind fun r12 => (if r12 = (0 : Int32) then some (0 : Int32) else (f_X9_isVariable c).bind fun r13 => (if r13 = (0 : Int32) then some (0 : Int32) else some (1 : Int32)))) else (if act = (5 : Int32) then (f_X9_isVariable a).bind fun r14 => (if r14 = (0 : Int32) then some (0 : Int32) else (f_X9_in b.toInt64 (0 : Int64) (12 : Int64)).bind fun r15 => (if r15 = (0 : Int32) then some (0 : Int32) else (if c = (0 : Int32) then some (1 : Int32) else some (0 : Int32)))) else (if act = (6 : Int32) then (f_X9_isVariable a).bind fun r16 => (if r16 = (0 : Int32) then some (0 : Int32) else (if b = (0 : Int32) then (if c = (0 : Int32) then some (1 : Int32) else some (0 : Int32)) else some (0 : Int32))) else (if act = (7 : Int32) then (if a = (0 : Int32) then (if b = (0 : Int32) then (if c = (0 : Int32) then some (1 : Int32) else some (0 : Int32)) else some (0 : Int32)) else some (0 : Int32)) else some (0 : Int32)))))))))
abbrev rm_X9_isLine : Room := { frames := 2, cells := 0, slots := 0, locals := 45 }
set_option maxHeartbeats 4000000 in
set_option maxRecDepth 20000 in
theorem m_X9_isLine (l : Launch) (D : va_G) (cy : Cy) (q : Nat → Nat) (σ : St) (act : Int32) (a : Int32) (b : Int32) (c : Int32)  : ∀ res, f_X9_isLine act a b c = some res → MetX (vM D cy q) l yX9_isLine cX9_isLine 4 (some .boolean) rm_X9_isLine [.int act, .int a, .int b, .int c] σ (some (.int res), σ) := by
  let fin_ : Int32 → Option Value × St := fun r => (some (.int r), σ)
  have hro : ∀ (z : Int32) (res : Int32), some z = some res → fin_ res = fin_ z := fun z res h => by cases h; rfl
  refine MetX.of1 (fin := fin_) (lv := [(0, .int act), (1, .int a), (2, .int b), (3, .int c)]) (by decide) (Nat.le_of_ble_eq_true rfl) rfl ?_
  unfold f_X9_isLine
  refine g_iload_n (pc := 0) 0 dX9_isLine_0 rfl rfl ?_
  refine g_if (fun c1_0 => ?_) (fun n1_0 => ?_)
  · refine g_tbl (pc := 1) (0) 44 dX9_isLine_1 (i32_eq (0) rfl c1_0) (by decide) (by decide) rfl (by decide) ?_
    refine g_iload_n (pc := 44) 1 dX9_isLine_44 rfl rfl ?_
    refine gS_i (pc := 45) [.int a] [] (m_X9_isVariable l D cy q σ a) cw_X9_isVariable km_X9_105 ⟨rfl, rfl, by decide, by decide⟩ dX9_isLine_45 rfl rfl (Nat.le_of_ble_eq_true rfl) (fun r1 => ?_)
    refine g_if_eq (pc := 48) 66 dX9_isLine_48 (by decide) ?_ ?_
    · refine g_iconst (pc := 66) (0) dX9_isLine_66 (by decide) ?_
      exact g_zret (pc := 67) rfl (hro _) rfl dX9_isLine_67
    · refine g_iload_n (pc := 51) 2 dX9_isLine_51 rfl rfl ?_
      refine gS_i (pc := 52) [.int b] [] (m_X9_isVariable l D cy q σ b) cw_X9_isVariable km_X9_105 ⟨rfl, rfl, by decide, by decide⟩ dX9_isLine_52 rfl rfl (Nat.le_of_ble_eq_true rfl) (fun r2 => ?_)
      refine g_if_eq (pc := 55) 66 dX9_isLine_55 (by decide) ?_ ?_
      · refine g_iconst (pc := 66) (0) dX9_isLine_66 (by decide) ?_
        exact g_zret (pc := 67) rfl (hro _) rfl dX9_isLine_67
      · refine g_iload_n (pc := 58) 3 dX9_isLine_58 rfl rfl ?_
        refine g_if_ne (pc := 59) 66 dX9_isLine_59 (by decide) ?_ ?_
        · refine g_iconst (pc := 66) (0) dX9_isLine_66 (by decide) ?_
          exact g_zret (pc := 67) rfl (hro _) rfl dX9_isLine_67
        · refine g_iconst (pc := 62) (1) dX9_isLine_62 (by decide) ?_
          refine g_goto (pc := 63) 67 dX9_isLine_63 (by decide) ?_
          exact g_zret (pc := 67) rfl (hro _) rfl dX9_isLine_67
  · refine g_if (fun c1_1 => ?_) (fun n1_1 => ?_)
    · refine g_tbl (pc := 1) (1) 44 dX9_isLine_1 (i32_eq (1) rfl c1_1) (by decide) (by decide) rfl (by decide) ?_
      refine g_iload_n (pc := 44) 1 dX9_isLine_44 rfl rfl ?_
      refine gS_i (pc := 45) [.int a] [] (m_X9_isVariable l D cy q σ a) cw_X9_isVariable km_X9_105 ⟨rfl, rfl, by decide, by decide⟩ dX9_isLine_45 rfl rfl (Nat.le_of_ble_eq_true rfl) (fun r3 => ?_)
      refine g_if_eq (pc := 48) 66 dX9_isLine_48 (by decide) ?_ ?_
      · refine g_iconst (pc := 66) (0) dX9_isLine_66 (by decide) ?_
        exact g_zret (pc := 67) rfl (hro _) rfl dX9_isLine_67
      · refine g_iload_n (pc := 51) 2 dX9_isLine_51 rfl rfl ?_
        refine gS_i (pc := 52) [.int b] [] (m_X9_isVariable l D cy q σ b) cw_X9_isVariable km_X9_105 ⟨rfl, rfl, by decide, by decide⟩ dX9_isLine_52 rfl rfl (Nat.le_of_ble_eq_true rfl) (fun r4 => ?_)
        refine g_if_eq (pc := 55) 66 dX9_isLine_55 (by decide) ?_ ?_
        · refine g_iconst (pc := 66) (0) dX9_isLine_66 (by decide) ?_
          exact g_zret (pc := 67) rfl (hro _) rfl dX9_isLine_67
        · refine g_iload_n (pc := 58) 3 dX9_isLine_58 rfl rfl ?_
          refine g_if_ne (pc := 59) 66 dX9_isLine_59 (by decide) ?_ ?_
          · refine g_iconst (pc := 66) (0) dX9_isLine_66 (by decide) ?_
            exact g_zret (pc := 67) rfl (hro _) rfl dX9_isLine_67
          · refine g_iconst (pc := 62) (1) dX9_isLine_62 (by decide) ?_
            refine g_goto (pc := 63) 67 dX9_isLine_63 (by decide) ?_
            exact g_zret (pc := 67) rfl (hro _) rfl dX9_isLine_67
    · refine g_if (fun c1_2 => ?_) (fun n1_2 => ?_)
      · refine g_tbl (pc := 1) (2) 68 dX9_isLine_1 (i32_eq (2) rfl c1_2) (by decide) (by decide) rfl (by decide) ?_
        refine g_iload_n (pc := 68) 1 dX9_isLine_68 rfl rfl ?_
        refine gS_i (pc := 69) [.int a] [] (m_X9_isVariable l D cy q σ a) cw_X9_isVariable km_X9_105 ⟨rfl, rfl, by decide, by decide⟩ dX9_isLine_69 rfl rfl (Nat.le_of_ble_eq_true rfl) (fun r5 => ?_)
        refine g_if_eq (pc := 72) 93 dX9_isLine_72 (by decide) ?_ ?_
        · refine g_iconst (pc := 93) (0) dX9_isLine_93 (by decide) ?_
          exact g_zret (pc := 94) rfl (hro _) rfl dX9_isLine_94
        · refine g_iload_n (pc := 75) 2 dX9_isLine_75 rfl rfl ?_
          refine gS_i (pc := 76) [.int b] [] (m_X9_isVariable l D cy q σ b) cw_X9_isVariable km_X9_105 ⟨rfl, rfl, by decide, by decide⟩ dX9_isLine_76 rfl rfl (Nat.le_of_ble_eq_true rfl) (fun r6 => ?_)
          refine g_if_eq (pc := 79) 93 dX9_isLine_79 (by decide) ?_ ?_
          · refine g_iconst (pc := 93) (0) dX9_isLine_93 (by decide) ?_
            exact g_zret (pc := 94) rfl (hro _) rfl dX9_isLine_94
          · refine g_iload_n (pc := 82) 3 dX9_isLine_82 rfl rfl ?_
            refine gS_i (pc := 83) [.int c] [] (m_X9_isVariable l D cy q σ c) cw_X9_isVariable km_X9_105 ⟨rfl, rfl, by decide, by decide⟩ dX9_isLine_83 rfl rfl (Nat.le_of_ble_eq_true rfl) (fun r7 => ?_)
            refine g_if_eq (pc := 86) 93 dX9_isLine_86 (by decide) ?_ ?_
            · refine g_iconst (pc := 93) (0) dX9_isLine_93 (by decide) ?_
              exact g_zret (pc := 94) rfl (hro _) rfl dX9_isLine_94
            · refine g_iconst (pc := 89) (1) dX9_isLine_89 (by decide) ?_
              refine g_goto (pc := 90) 94 dX9_isLine_90 (by decide) ?_
              exact g_zret (pc := 94) rfl (hro _) rfl dX9_isLine_94
      · refine g_if (fun c1_3 => ?_) (fun n1_3 => ?_)
        · refine g_tbl (pc := 1) (3) 68 dX9_isLine_1 (i32_eq (3) rfl c1_3) (by decide) (by decide) rfl (by decide) ?_
          refine g_iload_n (pc := 68) 1 dX9_isLine_68 rfl rfl ?_
          refine gS_i (pc := 69) [.int a] [] (m_X9_isVariable l D cy q σ a) cw_X9_isVariable km_X9_105 ⟨rfl, rfl, by decide, by decide⟩ dX9_isLine_69 rfl rfl (Nat.le_of_ble_eq_true rfl) (fun r8 => ?_)
          refine g_if_eq (pc := 72) 93 dX9_isLine_72 (by decide) ?_ ?_
          · refine g_iconst (pc := 93) (0) dX9_isLine_93 (by decide) ?_
            exact g_zret (pc := 94) rfl (hro _) rfl dX9_isLine_94
          · refine g_iload_n (pc := 75) 2 dX9_isLine_75 rfl rfl ?_
            refine gS_i (pc := 76) [.int b] [] (m_X9_isVariable l D cy q σ b) cw_X9_isVariable km_X9_105 ⟨rfl, rfl, by decide, by decide⟩ dX9_isLine_76 rfl rfl (Nat.le_of_ble_eq_true rfl) (fun r9 => ?_)
            refine g_if_eq (pc := 79) 93 dX9_isLine_79 (by decide) ?_ ?_
            · refine g_iconst (pc := 93) (0) dX9_isLine_93 (by decide) ?_
              exact g_zret (pc := 94) rfl (hro _) rfl dX9_isLine_94
            · refine g_iload_n (pc := 82) 3 dX9_isLine_82 rfl rfl ?_
              refine gS_i (pc := 83) [.int c] [] (m_X9_isVariable l D cy q σ c) cw_X9_isVariable km_X9_105 ⟨rfl, rfl, by decide, by decide⟩ dX9_isLine_83 rfl rfl (Nat.le_of_ble_eq_true rfl) (fun r10 => ?_)
              refine g_if_eq (pc := 86) 93 dX9_isLine_86 (by decide) ?_ ?_
              · refine g_iconst (pc := 93) (0) dX9_isLine_93 (by decide) ?_
                exact g_zret (pc := 94) rfl (hro _) rfl dX9_isLine_94
              · refine g_iconst (pc := 89) (1) dX9_isLine_89 (by decide) ?_
                refine g_goto (pc := 90) 94 dX9_isLine_90 (by decide) ?_
                exact g_zret (pc := 94) rfl (hro _) rfl dX9_isLine_94
        · refine g_if (fun c1_4 => ?_) (fun n1_4 => ?_)
          · refine g_tbl (pc := 1) (4) 68 dX9_isLine_1 (i32_eq (4) rfl c1_4) (by decide) (by decide) rfl (by decide) ?_
            refine g_iload_n (pc := 68) 1 dX9_isLine_68 rfl rfl ?_
            refine gS_i (pc := 69) [.int a] [] (m_X9_isVariable l D cy q σ a) cw_X9_isVariable km_X9_105 ⟨rfl, rfl, by decide, by decide⟩ dX9_isLine_69 rfl rfl (Nat.le_of_ble_eq_true rfl) (fun r11 => ?_)
            refine g_if_eq (pc := 72) 93 dX9_isLine_72 (by decide) ?_ ?_
            · refine g_iconst (pc := 93) (0) dX9_isLine_93 (by decide) ?_
              exact g_zret (pc := 94) rfl (hro _) rfl dX9_isLine_94
            · refine g_iload_n (pc := 75) 2 dX9_isLine_75 rfl rfl ?_
              refine gS_i (pc := 76) [.int b] [] (m_X9_isVariable l D cy q σ b) cw_X9_isVariable km_X9_105 ⟨rfl, rfl, by decide, by decide⟩ dX9_isLine_76 rfl rfl (Nat.le_of_ble_eq_true rfl) (fun r12 => ?_)
              refine g_if_eq (pc := 79) 93 dX9_isLine_79 (by decide) ?_ ?_
              · refine g_iconst (pc := 93) (0) dX9_isLine_93 (by decide) ?_
                exact g_zret (pc := 94) rfl (hro _) rfl dX9_isLine_94
              · refine g_iload_n (pc := 82) 3 dX9_isLine_82 rfl rfl ?_
                refine gS_i (pc := 83) [.int c] [] (m_X9_isVariable l D cy q σ c) cw_X9_isVariable km_X9_105 ⟨rfl, rfl, by decide, by decide⟩ dX9_isLine_83 rfl rfl (Nat.le_of_ble_eq_true rfl) (fun r13 => ?_)
                refine g_if_eq (pc := 86) 93 dX9_isLine_86 (by decide) ?_ ?_
                · refine g_iconst (pc := 93) (0) dX9_isLine_93 (by decide) ?_
                  exact g_zret (pc := 94) rfl (hro _) rfl dX9_isLine_94
                · refine g_iconst (pc := 89) (1) dX9_isLine_89 (by decide) ?_
                  refine g_goto (pc := 90) 94 dX9_isLine_90 (by decide) ?_
                  exact g_zret (pc := 94) rfl (hro _) rfl dX9_isLine_94
          · refine g_if (fun c1_5 => ?_) (fun n1_5 => ?_)
            · refine g_tbl (pc := 1) (5) 95 dX9_isLine_1 (i32_eq (5) rfl c1_5) (by decide) (by decide) rfl (by decide) ?_
              refine g_iload_n (pc := 95) 1 dX9_isLine_95 rfl rfl ?_
              refine gS_i (pc := 96) [.int a] [] (m_X9_isVariable l D cy q σ a) cw_X9_isVariable km_X9_105 ⟨rfl, rfl, by decide, by decide⟩ dX9_isLine_96 rfl rfl (Nat.le_of_ble_eq_true rfl) (fun r14 => ?_)
              refine g_if_eq (pc := 99) 122 dX9_isLine_99 (by decide) ?_ ?_
              · refine g_iconst (pc := 122) (0) dX9_isLine_122 (by decide) ?_
                exact g_zret (pc := 123) rfl (hro _) rfl dX9_isLine_123
              · refine g_iload_n (pc := 102) 2 dX9_isLine_102 rfl rfl ?_
                refine g_i2l (pc := 103) dX9_isLine_103 ?_
                refine g_lconst (pc := 104) (0) dX9_isLine_104 (by decide) ?_
                refine g_ldc2 (pc := 105) dX9_isLine_105 kl_X9_109 ?_
                refine gS_i (pc := 108) [.long b.toInt64, .long (0 : Int64), .long (12 : Int64)] [] (m_X9_in l D cy q σ b.toInt64 (0 : Int64) (12 : Int64)) cw_X9_in km_X9_101 ⟨rfl, rfl, by decide, by decide⟩ dX9_isLine_108 rfl rfl (Nat.le_of_ble_eq_true rfl) (fun r15 => ?_)
                refine g_if_eq (pc := 111) 122 dX9_isLine_111 (by decide) ?_ ?_
                · refine g_iconst (pc := 122) (0) dX9_isLine_122 (by decide) ?_
                  exact g_zret (pc := 123) rfl (hro _) rfl dX9_isLine_123
                · refine g_iload_n (pc := 114) 3 dX9_isLine_114 rfl rfl ?_
                  refine g_if_ne (pc := 115) 122 dX9_isLine_115 (by decide) ?_ ?_
                  · refine g_iconst (pc := 122) (0) dX9_isLine_122 (by decide) ?_
                    exact g_zret (pc := 123) rfl (hro _) rfl dX9_isLine_123
                  · refine g_iconst (pc := 118) (1) dX9_isLine_118 (by decide) ?_
                    refine g_goto (pc := 119) 123 dX9_isLine_119 (by decide) ?_
                    exact g_zret (pc := 123) rfl (hro _) rfl dX9_isLine_123
            · refine g_if (fun c1_6 => ?_) (fun n1_6 => ?_)
              · refine g_tbl (pc := 1) (6) 124 dX9_isLine_1 (i32_eq (6) rfl c1_6) (by decide) (by decide) rfl (by decide) ?_
                refine g_iload_n (pc := 124) 1 dX9_isLine_124 rfl rfl ?_
                refine gS_i (pc := 125) [.int a] [] (m_X9_isVariable l D cy q σ a) cw_X9_isVariable km_X9_105 ⟨rfl, rfl, by decide, by decide⟩ dX9_isLine_125 rfl rfl (Nat.le_of_ble_eq_true rfl) (fun r16 => ?_)
                refine g_if_eq (pc := 128) 143 dX9_isLine_128 (by decide) ?_ ?_
                · refine g_iconst (pc := 143) (0) dX9_isLine_143 (by decide) ?_
                  exact g_zret (pc := 144) rfl (hro _) rfl dX9_isLine_144
                · refine g_iload_n (pc := 131) 2 dX9_isLine_131 rfl rfl ?_
                  refine g_if_ne (pc := 132) 143 dX9_isLine_132 (by decide) ?_ ?_
                  · refine g_iconst (pc := 143) (0) dX9_isLine_143 (by decide) ?_
                    exact g_zret (pc := 144) rfl (hro _) rfl dX9_isLine_144
                  · refine g_iload_n (pc := 135) 3 dX9_isLine_135 rfl rfl ?_
                    refine g_if_ne (pc := 136) 143 dX9_isLine_136 (by decide) ?_ ?_
                    · refine g_iconst (pc := 143) (0) dX9_isLine_143 (by decide) ?_
                      exact g_zret (pc := 144) rfl (hro _) rfl dX9_isLine_144
                    · refine g_iconst (pc := 139) (1) dX9_isLine_139 (by decide) ?_
                      refine g_goto (pc := 140) 144 dX9_isLine_140 (by decide) ?_
                      exact g_zret (pc := 144) rfl (hro _) rfl dX9_isLine_144
              · refine g_tblOut (pc := 1) 145 dX9_isLine_1 (by have e0 := i32_ne (0) rfl n1_0; have e1 := i32_ne (1) rfl n1_1; have e2 := i32_ne (2) rfl n1_2; have e3 := i32_ne (3) rfl n1_3; have e4 := i32_ne (4) rfl n1_4; have e5 := i32_ne (5) rfl n1_5; have e6 := i32_ne (6) rfl n1_6; omega) (by decide) ?_
                refine g_iload_n (pc := 145) 0 dX9_isLine_145 rfl rfl ?_
                refine g_bipush (pc := 146) (7) dX9_isLine_146 (by decide) ?_
                refine g_icmp_ne (pc := 148) 167 dX9_isLine_148 (by decide) ?_ ?_
                · refine g_iconst (pc := 167) (0) dX9_isLine_167 (by decide) ?_
                  exact g_zret (pc := 168) rfl (hro _) rfl dX9_isLine_168
                · refine g_iload_n (pc := 151) 1 dX9_isLine_151 rfl rfl ?_
                  refine g_if_ne (pc := 152) 167 dX9_isLine_152 (by decide) ?_ ?_
                  · refine g_iconst (pc := 167) (0) dX9_isLine_167 (by decide) ?_
                    exact g_zret (pc := 168) rfl (hro _) rfl dX9_isLine_168
                  · refine g_iload_n (pc := 155) 2 dX9_isLine_155 rfl rfl ?_
                    refine g_if_ne (pc := 156) 167 dX9_isLine_156 (by decide) ?_ ?_
                    · refine g_iconst (pc := 167) (0) dX9_isLine_167 (by decide) ?_
                      exact g_zret (pc := 168) rfl (hro _) rfl dX9_isLine_168
                    · refine g_iload_n (pc := 159) 3 dX9_isLine_159 rfl rfl ?_
                      refine g_if_ne (pc := 160) 167 dX9_isLine_160 (by decide) ?_ ?_
                      · refine g_iconst (pc := 167) (0) dX9_isLine_167 (by decide) ?_
                        exact g_zret (pc := 168) rfl (hro _) rfl dX9_isLine_168
                      · refine g_iconst (pc := 163) (1) dX9_isLine_163 (by decide) ?_
                        refine g_goto (pc := 164) 168 dX9_isLine_164 (by decide) ?_
                        exact g_zret (pc := 168) rfl (hro _) rfl dX9_isLine_168
def f_X9_lay (at_ : Int32) (act : Int32) (a : Int32) (b : Int32) (c : Int32) (σ : St) : Option (St) := chk (inb at_ 48) (nm (stI σ 1 at_.toNatClampNeg act) fun s1 => chk (inb at_ 48) (nm (stI s1 2 at_.toNatClampNeg a) fun s2 => chk (inb at_ 48) (nm (stI s2 3 at_.toNatClampNeg b) fun s3 => chk (inb at_ 48) (nm (stI s3 4 at_.toNatClampNeg c) fun s4 => some s4))))
abbrev rm_X9_lay : Room := { frames := 0, cells := 0, slots := 0, locals := 0 }
set_option maxHeartbeats 4000000 in
set_option maxRecDepth 20000 in
theorem m_X9_lay (l : Launch) (D : va_G) (cy : Cy) (q : Nat → Nat) (σ : St) (at_ : Int32) (act : Int32) (a : Int32) (b : Int32) (c : Int32)  : ∀ res, f_X9_lay at_ act a b c σ = some res → MetX (vM D cy q) l yX9_lay cX9_lay 6 none rm_X9_lay [.ref (q 0), .int at_, .int act, .int a, .int b, .int c] σ (none, res) := by
  let fin_ : St → Option Value × St := fun r => (none, r)
  have hro : ∀ (z : St) (res : St), some z = some res → fin_ res = fin_ z := fun z res h => by cases h; rfl
  refine MetX.of1 (fin := fin_) (lv := [(0, .ref (q 0)), (1, .int at_), (2, .int act), (3, .int a), (4, .int b), (5, .int c)]) (by decide) (Nat.le_of_ble_eq_true rfl) rfl ?_
  unfold f_X9_lay
  refine g_aload_n (pc := 0) 0 dX9_lay_0 rfl rfl ?_
  refine gf_9_acts (pc := 1) kf_X9_7 dX9_lay_1 ?_
  refine g_iload_n (pc := 4) 1 dX9_lay_4 rfl rfl ?_
  refine g_iload_n (pc := 5) 2 dX9_lay_5 rfl rfl ?_
  refine a_ist (pc := 6) aM_acts dX9_lay_6 (fun s1 => ?_)
  refine g_aload_n (pc := 7) 0 dX9_lay_7 rfl rfl ?_
  refine gf_9_firsts (pc := 8) kf_X9_13 dX9_lay_8 ?_
  refine g_iload_n (pc := 11) 1 dX9_lay_11 rfl rfl ?_
  refine g_iload_n (pc := 12) 3 dX9_lay_12 rfl rfl ?_
  refine a_ist (pc := 13) aM_firsts dX9_lay_13 (fun s2 => ?_)
  refine g_aload_n (pc := 14) 0 dX9_lay_14 rfl rfl ?_
  refine gf_9_seconds (pc := 15) kf_X9_16 dX9_lay_15 ?_
  refine g_iload_n (pc := 18) 1 dX9_lay_18 rfl rfl ?_
  refine g_iload (pc := 19) 4 dX9_lay_19 rfl ?_
  refine a_ist (pc := 21) aM_seconds dX9_lay_21 (fun s3 => ?_)
  refine g_aload_n (pc := 22) 0 dX9_lay_22 rfl rfl ?_
  refine gf_9_thirds (pc := 23) kf_X9_19 dX9_lay_23 ?_
  refine g_iload_n (pc := 26) 1 dX9_lay_26 rfl rfl ?_
  refine g_iload (pc := 27) 5 dX9_lay_27 rfl ?_
  refine a_ist (pc := 29) aM_thirds dX9_lay_29 (fun s4 => ?_)
  exact g_vret (pc := 30) (hro _) rfl dX9_lay_30
def f_X9_line (program : Int32) (act : Int32) (a : Int32) (b : Int32) (c : Int32) (σ : St) : Option (Int32 × St) := (f_X9_isProgram program).bind fun r1 => (if r1 = (0 : Int32) then some ((-1 : Int32), σ) else (f_X9_isLine act a b c).bind fun r2 => (if r2 = (0 : Int32) then some ((-2 : Int32), σ) else chk (inb program 4) ((if (σ.1 5 program.toNatClampNeg) = (12 : Int32) then some ((-4 : Int32), σ) else chk (inb program 4) ((f_X9_lay (((12 : Int32) * program) + (σ.1 5 program.toNatClampNeg)) act a b c σ).bind fun s1 => (f_X9_isOther program s1).bind fun s2 => chk (inb program 4) (chk (inb program 4) (nm (stI s2 5 program.toNatClampNeg ((s2.1 5 program.toNatClampNeg) + (1 : Int32))) fun s3 => chk (inb program 4) (some (((s3.1 5 program.toNatClampNeg) - (1 : Int32)), s3)))))))))
abbrev rm_X9_line : Room := { frames := 3, cells := 0, slots := 0, locals := 68 }
set_option maxHeartbeats 4000000 in
set_option maxRecDepth 20000 in
theorem m_X9_line (l : Launch) (D : va_G) (cy : Cy) (q : Nat → Nat) (σ : St) (program : Int32) (act : Int32) (a : Int32) (b : Int32) (c : Int32)  : ∀ res, f_X9_line program act a b c σ = some res → MetX (vM D cy q) l yX9_line cX9_line 6 (some .int) rm_X9_line [.ref (q 0), .int program, .int act, .int a, .int b, .int c] σ (some (.int res.1), res.2) := by
  let fin_ : (Int32 × St) → Option Value × St := fun r => (some (.int r.1), r.2)
  have hro : ∀ (z : Int32 × St) (res : Int32 × St), some z = some res → fin_ res = fin_ z := fun z res h => by cases h; rfl
  refine MetX.of1 (fin := fin_) (lv := [(0, .ref (q 0)), (1, .int program), (2, .int act), (3, .int a), (4, .int b), (5, .int c)]) (by decide) (Nat.le_of_ble_eq_true rfl) rfl ?_
  unfold f_X9_line
  refine g_iload_n (pc := 0) 1 dX9_line_0 rfl rfl ?_
  refine gS_i (pc := 1) [.int program] [] (m_X9_isProgram l D cy q σ program) cw_X9_isProgram km_X9_111 ⟨rfl, rfl, by decide, by decide⟩ dX9_line_1 rfl rfl (Nat.le_of_ble_eq_true rfl) (fun r1 => ?_)
  refine g_if_ne (pc := 4) 9 dX9_line_4 (by decide) ?_ ?_
  · refine g_iload_n (pc := 9) 2 dX9_line_9 rfl rfl ?_
    refine g_iload_n (pc := 10) 3 dX9_line_10 rfl rfl ?_
    refine g_iload (pc := 11) 4 dX9_line_11 rfl ?_
    refine g_iload (pc := 13) 5 dX9_line_13 rfl ?_
    refine gS_i (pc := 15) [.int act, .int a, .int b, .int c] [] (m_X9_isLine l D cy q σ act a b c) cw_X9_isLine km_X9_114 ⟨rfl, rfl, by decide, by decide⟩ dX9_line_15 rfl rfl (Nat.le_of_ble_eq_true rfl) (fun r2 => ?_)
    refine g_if_ne (pc := 18) 24 dX9_line_18 (by decide) ?_ ?_
    · refine g_aload_n (pc := 24) 0 dX9_line_24 rfl rfl ?_
      refine gf_9_lineMany (pc := 25) kf_X9_22 dX9_line_25 ?_
      refine g_iload_n (pc := 28) 1 dX9_line_28 rfl rfl ?_
      refine a_ild (pc := 29) aM_lineMany dX9_line_29 ?_
      refine g_bipush (pc := 30) (12) dX9_line_30 (by decide) ?_
      refine g_icmp_ne (pc := 32) 38 dX9_line_32 (by decide) ?_ ?_
      · refine g_aload_n (pc := 38) 0 dX9_line_38 rfl rfl ?_
        refine g_bipush (pc := 39) (12) dX9_line_39 (by decide) ?_
        refine g_iload_n (pc := 41) 1 dX9_line_41 rfl rfl ?_
        refine g_imul (pc := 42) dX9_line_42 ?_
        refine g_aload_n (pc := 43) 0 dX9_line_43 rfl rfl ?_
        refine gf_9_lineMany (pc := 44) kf_X9_22 dX9_line_44 ?_
        refine g_iload_n (pc := 47) 1 dX9_line_47 rfl rfl ?_
        refine a_ild (pc := 48) aM_lineMany dX9_line_48 ?_
        refine g_iadd (pc := 49) dX9_line_49 ?_
        refine g_iload_n (pc := 50) 2 dX9_line_50 rfl rfl ?_
        refine g_iload_n (pc := 51) 3 dX9_line_51 rfl rfl ?_
        refine g_iload (pc := 52) 4 dX9_line_52 rfl ?_
        refine g_iload (pc := 54) 5 dX9_line_54 rfl ?_
        refine gV_v (pc := 56) [.int (((12 : Int32) * program) + (σ.1 5 program.toNatClampNeg)), .int act, .int a, .int b, .int c] [] (m_X9_lay l D cy q σ (((12 : Int32) * program) + (σ.1 5 program.toNatClampNeg)) act a b c) cw_X9_lay km_X9_118 ⟨rfl, rfl, by decide, by decide⟩ (Nat.le_of_ble_eq_true rfl) (eM_9 (cy := cy) (σ.1 0) (σ.2 0)) rfl dX9_line_56 rfl rfl (Nat.le_of_ble_eq_true rfl) (fun s1 => ?_)
        refine g_aload_n (pc := 59) 0 dX9_line_59 rfl rfl ?_
        refine g_iload_n (pc := 60) 1 dX9_line_60 rfl rfl ?_
        refine gV_v (pc := 61) [.int program] [] (m_X9_isOther l D cy q s1 program) cw_X9_isOther km_X9_122 ⟨rfl, rfl, by decide, by decide⟩ (Nat.le_of_ble_eq_true rfl) (eM_9 (cy := cy) (s1.1 0) (s1.2 0)) rfl dX9_line_61 rfl rfl (Nat.le_of_ble_eq_true rfl) (fun s2 => ?_)
        refine g_aload_n (pc := 64) 0 dX9_line_64 rfl rfl ?_
        refine gf_9_lineMany (pc := 65) kf_X9_22 dX9_line_65 ?_
        refine g_iload_n (pc := 68) 1 dX9_line_68 rfl rfl ?_
        refine g_dup2 (pc := 69) dX9_line_69 rfl rfl ?_
        refine a_ild (pc := 70) aM_lineMany dX9_line_70 ?_
        refine g_iconst (pc := 71) (1) dX9_line_71 (by decide) ?_
        refine g_iadd (pc := 72) dX9_line_72 ?_
        refine a_ist (pc := 73) aM_lineMany dX9_line_73 (fun s3 => ?_)
        refine g_aload_n (pc := 74) 0 dX9_line_74 rfl rfl ?_
        refine gf_9_lineMany (pc := 75) kf_X9_22 dX9_line_75 ?_
        refine g_iload_n (pc := 78) 1 dX9_line_78 rfl rfl ?_
        refine a_ild (pc := 79) aM_lineMany dX9_line_79 ?_
        refine g_iconst (pc := 80) (1) dX9_line_80 (by decide) ?_
        refine g_isub (pc := 81) dX9_line_81 ?_
        exact g_iret (pc := 82) (hro _) rfl dX9_line_82
      · refine g_bipush (pc := 35) (-4) dX9_line_35 (by decide) ?_
        exact g_iret (pc := 37) (hro _) rfl dX9_line_37
    · refine g_bipush (pc := 21) (-2) dX9_line_21 (by decide) ?_
      exact g_iret (pc := 23) (hro _) rfl dX9_line_23
  · refine g_iconst (pc := 7) (-1) dX9_line_7 (by decide) ?_
    exact g_iret (pc := 8) (hro _) rfl dX9_line_8
def f_X9_change (program : Int32) (line : Int32) (act : Int32) (a : Int32) (b : Int32) (c : Int32) (σ : St) : Option (Int32 × St) := (f_X9_isProgram program).bind fun r1 => (if r1 = (0 : Int32) then some ((-1 : Int32), σ) else chk (inb program 4) ((f_X9_in line.toInt64 (0 : Int64) (((σ.1 5 program.toNatClampNeg) - (1 : Int32)).toInt64)).bind fun r2 => (if r2 = (0 : Int32) then some ((-1 : Int32), σ) else (f_X9_isLine act a b c).bind fun r3 => (if r3 = (0 : Int32) then some ((-2 : Int32), σ) else chk (inb (((12 : Int32) * program) + line) 48) (nm (σ.1 1 (((12 : Int32) * program) + line).toNatClampNeg) fun x1 => (f_X9_lay (((12 : Int32) * program) + line) act a b c σ).bind fun s1 => (f_X9_isOther program s1).bind fun s2 => some (x1, s2))))))
abbrev rm_X9_change : Room := { frames := 3, cells := 0, slots := 0, locals := 68 }
set_option maxHeartbeats 4000000 in
set_option maxRecDepth 20000 in
theorem m_X9_change (l : Launch) (D : va_G) (cy : Cy) (q : Nat → Nat) (σ : St) (program : Int32) (line : Int32) (act : Int32) (a : Int32) (b : Int32) (c : Int32)  : ∀ res, f_X9_change program line act a b c σ = some res → MetX (vM D cy q) l yX9_change cX9_change 8 (some .int) rm_X9_change [.ref (q 0), .int program, .int line, .int act, .int a, .int b, .int c] σ (some (.int res.1), res.2) := by
  let fin_ : (Int32 × St) → Option Value × St := fun r => (some (.int r.1), r.2)
  have hro : ∀ (z : Int32 × St) (res : Int32 × St), some z = some res → fin_ res = fin_ z := fun z res h => by cases h; rfl
  refine MetX.of1 (fin := fin_) (lv := [(0, .ref (q 0)), (1, .int program), (2, .int line), (3, .int act), (4, .int a), (5, .int b), (6, .int c)]) (by decide) (Nat.le_of_ble_eq_true rfl) rfl ?_
  unfold f_X9_change
  refine g_iload_n (pc := 0) 1 dX9_change_0 rfl rfl ?_
  refine gS_i (pc := 1) [.int program] [] (m_X9_isProgram l D cy q σ program) cw_X9_isProgram km_X9_111 ⟨rfl, rfl, by decide, by decide⟩ dX9_change_1 rfl rfl (Nat.le_of_ble_eq_true rfl) (fun r1 => ?_)
  refine g_if_eq (pc := 4) 25 dX9_change_4 (by decide) ?_ ?_
  · refine g_iconst (pc := 25) (-1) dX9_change_25 (by decide) ?_
    exact g_iret (pc := 26) (hro _) rfl dX9_change_26
  · refine g_iload_n (pc := 7) 2 dX9_change_7 rfl rfl ?_
    refine g_i2l (pc := 8) dX9_change_8 ?_
    refine g_lconst (pc := 9) (0) dX9_change_9 (by decide) ?_
    refine g_aload_n (pc := 10) 0 dX9_change_10 rfl rfl ?_
    refine gf_9_lineMany (pc := 11) kf_X9_22 dX9_change_11 ?_
    refine g_iload_n (pc := 14) 1 dX9_change_14 rfl rfl ?_
    refine a_ild (pc := 15) aM_lineMany dX9_change_15 ?_
    refine g_iconst (pc := 16) (1) dX9_change_16 (by decide) ?_
    refine g_isub (pc := 17) dX9_change_17 ?_
    refine g_i2l (pc := 18) dX9_change_18 ?_
    refine gS_i (pc := 19) [.long line.toInt64, .long (0 : Int64), .long (((σ.1 5 program.toNatClampNeg) - (1 : Int32)).toInt64)] [] (m_X9_in l D cy q σ line.toInt64 (0 : Int64) (((σ.1 5 program.toNatClampNeg) - (1 : Int32)).toInt64)) cw_X9_in km_X9_101 ⟨rfl, rfl, by decide, by decide⟩ dX9_change_19 rfl rfl (Nat.le_of_ble_eq_true rfl) (fun r2 => ?_)
    refine g_if_ne (pc := 22) 27 dX9_change_22 (by decide) ?_ ?_
    · refine g_iload_n (pc := 27) 3 dX9_change_27 rfl rfl ?_
      refine g_iload (pc := 28) 4 dX9_change_28 rfl ?_
      refine g_iload (pc := 30) 5 dX9_change_30 rfl ?_
      refine g_iload (pc := 32) 6 dX9_change_32 rfl ?_
      refine gS_i (pc := 34) [.int act, .int a, .int b, .int c] [] (m_X9_isLine l D cy q σ act a b c) cw_X9_isLine km_X9_114 ⟨rfl, rfl, by decide, by decide⟩ dX9_change_34 rfl rfl (Nat.le_of_ble_eq_true rfl) (fun r3 => ?_)
      refine g_if_ne (pc := 37) 43 dX9_change_37 (by decide) ?_ ?_
      · refine g_aload_n (pc := 43) 0 dX9_change_43 rfl rfl ?_
        refine gf_9_acts (pc := 44) kf_X9_7 dX9_change_44 ?_
        refine g_bipush (pc := 47) (12) dX9_change_47 (by decide) ?_
        refine g_iload_n (pc := 49) 1 dX9_change_49 rfl rfl ?_
        refine g_imul (pc := 50) dX9_change_50 ?_
        refine g_iload_n (pc := 51) 2 dX9_change_51 rfl rfl ?_
        refine g_iadd (pc := 52) dX9_change_52 ?_
        refine a_ild (pc := 53) aM_acts dX9_change_53 ?_
        refine g_nmi (fun x1 => ?_)
        refine g_istore (pc := 54) (lv' := [(7, .int x1), (0, .ref (q 0)), (1, .int program), (2, .int line), (3, .int act), (4, .int a), (5, .int b), (6, .int c)]) dX9_change_54 (Nat.le_of_ble_eq_true rfl) rfl ?_
        refine g_aload_n (pc := 56) 1 dX9_change_56 rfl rfl ?_
        refine g_bipush (pc := 57) (12) dX9_change_57 (by decide) ?_
        refine g_iload_n (pc := 59) 2 dX9_change_59 rfl rfl ?_
        refine g_imul (pc := 60) dX9_change_60 ?_
        refine g_iload_n (pc := 61) 3 dX9_change_61 rfl rfl ?_
        refine g_iadd (pc := 62) dX9_change_62 ?_
        refine g_iload_n (pc := 63) 4 dX9_change_63 rfl rfl ?_
        refine g_iload (pc := 64) 5 dX9_change_64 rfl ?_
        refine g_iload (pc := 66) 6 dX9_change_66 rfl ?_
        refine g_iload (pc := 68) 7 dX9_change_68 rfl ?_
        refine gV_v (pc := 70) [.int (((12 : Int32) * program) + line), .int act, .int a, .int b, .int c] [] (m_X9_lay l D cy q σ (((12 : Int32) * program) + line) act a b c) cw_X9_lay km_X9_118 ⟨rfl, rfl, by decide, by decide⟩ (Nat.le_of_ble_eq_true rfl) (eM_9 (cy := cy) (σ.1 0) (σ.2 0)) rfl dX9_change_70 rfl rfl (Nat.le_of_ble_eq_true rfl) (fun s1 => ?_)
        refine g_aload_n (pc := 73) 1 dX9_change_73 rfl rfl ?_
        refine g_iload_n (pc := 74) 2 dX9_change_74 rfl rfl ?_
        refine gV_v (pc := 75) [.int program] [] (m_X9_isOther l D cy q s1 program) cw_X9_isOther km_X9_122 ⟨rfl, rfl, by decide, by decide⟩ (Nat.le_of_ble_eq_true rfl) (eM_9 (cy := cy) (s1.1 0) (s1.2 0)) rfl dX9_change_75 rfl rfl (Nat.le_of_ble_eq_true rfl) (fun s2 => ?_)
        refine g_iload (pc := 78) 0 dX9_change_78 rfl ?_
        exact g_iret (pc := 80) (hro _) rfl dX9_change_80
      · refine g_bipush (pc := 40) (-2) dX9_change_40 (by decide) ?_
        exact g_iret (pc := 42) (hro _) rfl dX9_change_42
    · refine g_iconst (pc := 25) (-1) dX9_change_25 (by decide) ?_
      exact g_iret (pc := 26) (hro _) rfl dX9_change_26
def f_X9_clear (program : Int32) (σ : St) : Option (Int32 × St) := (f_X9_isProgram program).bind fun r1 => (if r1 = (0 : Int32) then some ((-1 : Int32), σ) else chk (inb program 4) (nm (σ.1 5 program.toNatClampNeg) fun x1 => chk (inb program 4) (nm (stI σ 5 program.toNatClampNeg (0 : Int32)) fun s1 => chk (inb program 4) (nm (stI s1 6 program.toNatClampNeg (0 : Int32)) fun s2 => (f_X9_isOther program s2).bind fun s3 => some (x1, s3)))))
abbrev rm_X9_clear : Room := { frames := 2, cells := 0, slots := 0, locals := 45 }
set_option maxHeartbeats 4000000 in
set_option maxRecDepth 20000 in
theorem m_X9_clear (l : Launch) (D : va_G) (cy : Cy) (q : Nat → Nat) (σ : St) (program : Int32)  : ∀ res, f_X9_clear program σ = some res → MetX (vM D cy q) l yX9_clear cX9_clear 3 (some .int) rm_X9_clear [.ref (q 0), .int program] σ (some (.int res.1), res.2) := by
  let fin_ : (Int32 × St) → Option Value × St := fun r => (some (.int r.1), r.2)
  have hro : ∀ (z : Int32 × St) (res : Int32 × St), some z = some res → fin_ res = fin_ z := fun z res h => by cases h; rfl
  refine MetX.of1 (fin := fin_) (lv := [(0, .ref (q 0)), (1, .int program)]) (by decide) (Nat.le_of_ble_eq_true rfl) rfl ?_
  unfold f_X9_clear
  refine g_iload_n (pc := 0) 1 dX9_clear_0 rfl rfl ?_
  refine gS_i (pc := 1) [.int program] [] (m_X9_isProgram l D cy q σ program) cw_X9_isProgram km_X9_111 ⟨rfl, rfl, by decide, by decide⟩ dX9_clear_1 rfl rfl (Nat.le_of_ble_eq_true rfl) (fun r1 => ?_)
  refine g_if_ne (pc := 4) 9 dX9_clear_4 (by decide) ?_ ?_
  · refine g_aload_n (pc := 9) 0 dX9_clear_9 rfl rfl ?_
    refine gf_9_lineMany (pc := 10) kf_X9_22 dX9_clear_10 ?_
    refine g_iload_n (pc := 13) 1 dX9_clear_13 rfl rfl ?_
    refine a_ild (pc := 14) aM_lineMany dX9_clear_14 ?_
    refine g_nmi (fun x1 => ?_)
    refine g_istore_n (pc := 15) (lv' := [(2, .int x1), (0, .ref (q 0)), (1, .int program)]) dX9_clear_15 rfl (Nat.le_of_ble_eq_true rfl) rfl ?_
    refine g_aload_n (pc := 16) 1 dX9_clear_16 rfl rfl ?_
    refine gf_9_lineMany (pc := 17) kf_X9_22 dX9_clear_17 ?_
    refine g_iload_n (pc := 20) 2 dX9_clear_20 rfl rfl ?_
    refine g_iconst (pc := 21) (0) dX9_clear_21 (by decide) ?_
    refine a_ist (pc := 22) aM_lineMany dX9_clear_22 (fun s1 => ?_)
    refine g_aload_n (pc := 23) 1 dX9_clear_23 rfl rfl ?_
    refine gf_9_silence (pc := 24) kf_X9_25 dX9_clear_24 ?_
    refine g_iload_n (pc := 27) 2 dX9_clear_27 rfl rfl ?_
    refine g_iconst (pc := 28) (0) dX9_clear_28 (by decide) ?_
    refine a_ist (pc := 29) aM_silence dX9_clear_29 (fun s2 => ?_)
    refine g_aload_n (pc := 30) 1 dX9_clear_30 rfl rfl ?_
    refine g_iload_n (pc := 31) 2 dX9_clear_31 rfl rfl ?_
    refine gV_v (pc := 32) [.int program] [] (m_X9_isOther l D cy q s2 program) cw_X9_isOther km_X9_122 ⟨rfl, rfl, by decide, by decide⟩ (Nat.le_of_ble_eq_true rfl) (eM_9 (cy := cy) (s2.1 0) (s2.2 0)) rfl dX9_clear_32 rfl rfl (Nat.le_of_ble_eq_true rfl) (fun s3 => ?_)
    refine g_iload_n (pc := 35) 0 dX9_clear_35 rfl rfl ?_
    exact g_iret (pc := 36) (hro _) rfl dX9_clear_36
  · refine g_iconst (pc := 7) (-1) dX9_clear_7 (by decide) ?_
    exact g_iret (pc := 8) (hro _) rfl dX9_clear_8
def f_X9_silent (program : Int32) (lines : Int32) (σ : St) : Option (Int32 × St) := (f_X9_isProgram program).bind fun r1 => (if r1 = (0 : Int32) then some ((-1 : Int32), σ) else (f_X9_in lines.toInt64 (0 : Int64) (4095 : Int64)).bind fun r2 => (if r2 = (0 : Int32) then some ((-2 : Int32), σ) else chk (inb program 4) (nm (σ.1 6 program.toNatClampNeg) fun x1 => chk (inb program 4) (nm (stI σ 6 program.toNatClampNeg lines) fun s1 => nm (stI s1 0 7 ((s1.1 0 7) + (1 : Int32))) fun s2 => some (x1, s2)))))
abbrev rm_X9_silent : Room := { frames := 2, cells := 0, slots := 0, locals := 45 }
set_option maxHeartbeats 4000000 in
set_option maxRecDepth 20000 in
theorem m_X9_silent (l : Launch) (D : va_G) (cy : Cy) (q : Nat → Nat) (σ : St) (program : Int32) (lines : Int32)  : ∀ res, f_X9_silent program lines σ = some res → MetX (vM D cy q) l yX9_silent cX9_silent 4 (some .int) rm_X9_silent [.ref (q 0), .int program, .int lines] σ (some (.int res.1), res.2) := by
  let fin_ : (Int32 × St) → Option Value × St := fun r => (some (.int r.1), r.2)
  have hro : ∀ (z : Int32 × St) (res : Int32 × St), some z = some res → fin_ res = fin_ z := fun z res h => by cases h; rfl
  refine MetX.of1 (fin := fin_) (lv := [(0, .ref (q 0)), (1, .int program), (2, .int lines)]) (by decide) (Nat.le_of_ble_eq_true rfl) rfl ?_
  unfold f_X9_silent
  refine g_iload_n (pc := 0) 1 dX9_silent_0 rfl rfl ?_
  refine gS_i (pc := 1) [.int program] [] (m_X9_isProgram l D cy q σ program) cw_X9_isProgram km_X9_111 ⟨rfl, rfl, by decide, by decide⟩ dX9_silent_1 rfl rfl (Nat.le_of_ble_eq_true rfl) (fun r1 => ?_)
  refine g_if_ne (pc := 4) 9 dX9_silent_4 (by decide) ?_ ?_
  · refine g_iload_n (pc := 9) 2 dX9_silent_9 rfl rfl ?_
    refine g_i2l (pc := 10) dX9_silent_10 ?_
    refine g_lconst (pc := 11) (0) dX9_silent_11 (by decide) ?_
    refine g_ldc2 (pc := 12) dX9_silent_12 kl_X9_126 ?_
    refine gS_i (pc := 15) [.long lines.toInt64, .long (0 : Int64), .long (4095 : Int64)] [] (m_X9_in l D cy q σ lines.toInt64 (0 : Int64) (4095 : Int64)) cw_X9_in km_X9_101 ⟨rfl, rfl, by decide, by decide⟩ dX9_silent_15 rfl rfl (Nat.le_of_ble_eq_true rfl) (fun r2 => ?_)
    refine g_if_ne (pc := 18) 24 dX9_silent_18 (by decide) ?_ ?_
    · refine g_aload_n (pc := 24) 0 dX9_silent_24 rfl rfl ?_
      refine gf_9_silence (pc := 25) kf_X9_25 dX9_silent_25 ?_
      refine g_iload_n (pc := 28) 1 dX9_silent_28 rfl rfl ?_
      refine a_ild (pc := 29) aM_silence dX9_silent_29 ?_
      refine g_nmi (fun x1 => ?_)
      refine g_istore_n (pc := 30) (lv' := [(3, .int x1), (0, .ref (q 0)), (1, .int program), (2, .int lines)]) dX9_silent_30 rfl (Nat.le_of_ble_eq_true rfl) rfl ?_
      refine g_aload_n (pc := 31) 1 dX9_silent_31 rfl rfl ?_
      refine gf_9_silence (pc := 32) kf_X9_25 dX9_silent_32 ?_
      refine g_iload_n (pc := 35) 2 dX9_silent_35 rfl rfl ?_
      refine g_iload_n (pc := 36) 3 dX9_silent_36 rfl rfl ?_
      refine a_ist (pc := 37) aM_silence dX9_silent_37 (fun s1 => ?_)
      refine g_aload_n (pc := 38) 1 dX9_silent_38 rfl rfl ?_
      refine g_dup (pc := 39) dX9_silent_39 rfl ?_
      refine gf_9_version (pc := 40) kf_X9_93 dX9_silent_40 ?_
      refine g_iconst (pc := 43) (1) dX9_silent_43 (by decide) ?_
      refine g_iadd (pc := 44) dX9_silent_44 ?_
      refine gp_9_version (pc := 45) kf_X9_93 dX9_silent_45 (fun s2 => ?_)
      refine g_iload_n (pc := 48) 0 dX9_silent_48 rfl rfl ?_
      exact g_iret (pc := 49) (hro _) rfl dX9_silent_49
    · refine g_bipush (pc := 21) (-2) dX9_silent_21 (by decide) ?_
      exact g_iret (pc := 23) (hro _) rfl dX9_silent_23
  · refine g_iconst (pc := 7) (-1) dX9_silent_7 (by decide) ?_
    exact g_iret (pc := 8) (hro _) rfl dX9_silent_8
def f_X9_valueOf (memory : Int32) (v_ : Int32) : Option (Int32) := some ((memory >>> (((2 : Int32) * ((3 : Int32) - v_)) &&& 31)) &&& (3 : Int32))
abbrev rm_X9_valueOf : Room := { frames := 0, cells := 0, slots := 0, locals := 0 }
set_option maxHeartbeats 4000000 in
set_option maxRecDepth 20000 in
theorem m_X9_valueOf (l : Launch) (v : Vw) (σ : St) (memory : Int32) (v_ : Int32)  : ∀ res, f_X9_valueOf memory v_ = some res → MetX v l yX9_valueOf cX9_valueOf 2 (some .int) rm_X9_valueOf [.int memory, .int v_] σ (some (.int res), σ) := by
  let fin_ : Int32 → Option Value × St := fun r => (some (.int r), σ)
  have hro : ∀ (z : Int32) (res : Int32), some z = some res → fin_ res = fin_ z := fun z res h => by cases h; rfl
  refine MetX.of1 (fin := fin_) (lv := [(0, .int memory), (1, .int v_)]) (by decide) (Nat.le_of_ble_eq_true rfl) rfl ?_
  unfold f_X9_valueOf
  refine g_iload_n (pc := 0) 0 dX9_valueOf_0 rfl rfl ?_
  refine g_iconst (pc := 1) (2) dX9_valueOf_1 (by decide) ?_
  refine g_iconst (pc := 2) (3) dX9_valueOf_2 (by decide) ?_
  refine g_iload_n (pc := 3) 1 dX9_valueOf_3 rfl rfl ?_
  refine g_isub (pc := 4) dX9_valueOf_4 ?_
  refine g_imul (pc := 5) dX9_valueOf_5 ?_
  refine g_ishr (pc := 6) dX9_valueOf_6 ?_
  refine g_iconst (pc := 7) (3) dX9_valueOf_7 (by decide) ?_
  refine g_iand (pc := 8) dX9_valueOf_8 ?_
  exact g_iret (pc := 9) (hro _) rfl dX9_valueOf_9
def f_X9_with (memory : Int32) (v_ : Int32) (value : Int32) : Option (Int32) := nm ((2 : Int32) * ((3 : Int32) - v_)) fun x1 => some ((memory &&& (((3 : Int32) <<< (x1 &&& 31)) ^^^ (-1 : Int32))) ||| (value <<< (x1 &&& 31)))
abbrev rm_X9_with : Room := { frames := 0, cells := 0, slots := 0, locals := 0 }
set_option maxHeartbeats 4000000 in
set_option maxRecDepth 20000 in
theorem m_X9_with (l : Launch) (D : va_G) (cy : Cy) (q : Nat → Nat) (σ : St) (memory : Int32) (v_ : Int32) (value : Int32)  : ∀ res, f_X9_with memory v_ value = some res → MetX (vM D cy q) l yX9_with cX9_with 4 (some .int) rm_X9_with [.int memory, .int v_, .int value] σ (some (.int res), σ) := by
  let fin_ : Int32 → Option Value × St := fun r => (some (.int r), σ)
  have hro : ∀ (z : Int32) (res : Int32), some z = some res → fin_ res = fin_ z := fun z res h => by cases h; rfl
  refine MetX.of1 (fin := fin_) (lv := [(0, .int memory), (1, .int v_), (2, .int value)]) (by decide) (Nat.le_of_ble_eq_true rfl) rfl ?_
  unfold f_X9_with
  refine g_iconst (pc := 0) (2) dX9_with_0 (by decide) ?_
  refine g_iconst (pc := 1) (3) dX9_with_1 (by decide) ?_
  refine g_iload_n (pc := 2) 1 dX9_with_2 rfl rfl ?_
  refine g_isub (pc := 3) dX9_with_3 ?_
  refine g_imul (pc := 4) dX9_with_4 ?_
  refine g_nmi (fun x1 => ?_)
  refine g_istore_n (pc := 5) (lv' := [(3, .int x1), (0, .int memory), (1, .int v_), (2, .int value)]) dX9_with_5 rfl (Nat.le_of_ble_eq_true rfl) rfl ?_
  refine g_iload_n (pc := 6) 1 dX9_with_6 rfl rfl ?_
  refine g_iconst (pc := 7) (3) dX9_with_7 (by decide) ?_
  refine g_iload_n (pc := 8) 0 dX9_with_8 rfl rfl ?_
  refine g_ishl (pc := 9) dX9_with_9 ?_
  refine g_iconst (pc := 10) (-1) dX9_with_10 (by decide) ?_
  refine g_ixor (pc := 11) dX9_with_11 ?_
  refine g_iand (pc := 12) dX9_with_12 ?_
  refine g_iload_n (pc := 13) 3 dX9_with_13 rfl rfl ?_
  refine g_iload_n (pc := 14) 0 dX9_with_14 rfl rfl ?_
  refine g_ishl (pc := 15) dX9_with_15 ?_
  refine g_ior (pc := 16) dX9_with_16 ?_
  exact g_iret (pc := 17) (hro _) rfl dX9_with_17
def f_X9_held (p : Int32) (line : Int32) (σ : St) : Option (Int32) := chk (inb p 4) ((if line < (σ.1 5 p.toNatClampNeg) then some line else some (12 : Int32)))
abbrev rm_X9_held : Room := { frames := 0, cells := 0, slots := 0, locals := 0 }
set_option maxHeartbeats 4000000 in
set_option maxRecDepth 20000 in
theorem m_X9_held (l : Launch) (D : va_G) (cy : Cy) (q : Nat → Nat) (σ : St) (p : Int32) (line : Int32)  : ∀ res, f_X9_held p line σ = some res → MetX (vM D cy q) l yX9_held cX9_held 3 (some .int) rm_X9_held [.ref (q 0), .int p, .int line] σ (some (.int res), σ) := by
  let fin_ : Int32 → Option Value × St := fun r => (some (.int r), σ)
  have hro : ∀ (z : Int32) (res : Int32), some z = some res → fin_ res = fin_ z := fun z res h => by cases h; rfl
  refine MetX.of1 (fin := fin_) (lv := [(0, .ref (q 0)), (1, .int p), (2, .int line)]) (by decide) (Nat.le_of_ble_eq_true rfl) rfl ?_
  unfold f_X9_held
  refine g_iload_n (pc := 0) 2 dX9_held_0 rfl rfl ?_
  refine g_aload_n (pc := 1) 0 dX9_held_1 rfl rfl ?_
  refine gf_9_lineMany (pc := 2) kf_X9_22 dX9_held_2 ?_
  refine g_iload_n (pc := 5) 1 dX9_held_5 rfl rfl ?_
  refine a_ild (pc := 6) aM_lineMany dX9_held_6 ?_
  refine g_icmp_lt (pc := 7) 15 dX9_held_7 (by decide) ?_ ?_
  · refine g_iload_n (pc := 15) 2 dX9_held_15 rfl rfl ?_
    exact g_iret (pc := 16) (hro _) rfl dX9_held_16
  · refine g_bipush (pc := 10) (12) dX9_held_10 (by decide) ?_
    refine g_goto (pc := 12) 16 dX9_held_12 (by decide) ?_
    exact g_iret (pc := 16) (hro _) rfl dX9_held_16
def f_X9_work (p : Int32) (line : Int32) (memory : Int32) (σ : St) : Option (St) := nm (((12 : Int32) * p) + line) fun x1 => chk (inb x1 48) ((f_X9_valueOf memory ((σ.1 3 x1.toNatClampNeg) &&& (3 : Int32))).bind fun r1 => chk (inb x1 48) ((f_X9_valueOf memory ((σ.1 4 x1.toNatClampNeg) &&& (3 : Int32))).bind fun r2 => nm (stI σ 0 10 memory) fun s1 => (f_X9_held p (line + (1 : Int32)) s1).bind fun r3 => nm (stI s1 0 9 r3) fun s2 => nm (stI s2 0 11 (0 : Int32)) fun s3 => chk (inb x1 48) ((if (s3.1 1 x1.toNatClampNeg) = (0 : Int32) then chk (inb x1 48) (chk (inb x1 48) ((f_X9_with memory (s3.1 2 x1.toNatClampNeg) (s3.1 3 x1.toNatClampNeg)).bind fun r4 => nm (stI s3 0 10 r4) fun s4 => some s4)) else (if (s3.1 1 x1.toNatClampNeg) = (1 : Int32) then chk (inb x1 48) ((f_X9_with memory (s3.1 2 x1.toNatClampNeg) r1).bind fun r5 => nm (stI s3 0 10 r5) fun s5 => some s5) else (if (s3.1 1 x1.toNatClampNeg) = (2 : Int32) then chk (inb x1 48) ((f_X9_with memory (s3.1 2 x1.toNatClampNeg) ((r1 + r2) &&& (3 : Int32))).bind fun r6 => nm (stI s3 0 10 r6) fun s6 => some s6) else (if (s3.1 1 x1.toNatClampNeg) = (3 : Int32) then chk (inb x1 48) ((f_X9_with memory (s3.1 2 x1.toNatClampNeg) ((r1 - r2) &&& (3 : Int32))).bind fun r7 => nm (stI s3 0 10 r7) fun s7 => some s7) else (if (s3.1 1 x1.toNatClampNeg) = (4 : Int32) then (if r2 = (0 : Int32) then nm (stI s3 0 11 (1 : Int32)) fun s15 => (if r2 = (0 : Int32) then nm (stI s15 0 10 memory) fun s19 => (if r2 = (0 : Int32) then nm (stI s19 0 9 (12 : Int32)) fun s21 => some s21 else nm (stI s19 0 9 (s19.1 0 9)) fun s20 => some s20) else chk (inb x1 48) (chk (nz r2) ((f_X9_with memory (s15.1 2 x1.toNatClampNeg) (r1 - r1 / r2 * r2)).bind fun r9 => nm (stI s15 0 10 r9) fun s16 => (if r2 = (0 : Int32) then nm (stI s16 0 9 (12 : Int32)) fun s18 => some s18 else nm (stI s16 0 9 (s16.1 0 9)) fun s17 => some s17)))) else nm (stI s3 0 11 (0 : Int32)) fun s8 => (if r2 = (0 : Int32) then nm (stI s8 0 10 memory) fun s12 => (if r2 = (0 : Int32) then nm (stI s12 0 9 (12 : Int32)) fun s14 => some s14 else nm (stI s12 0 9 (s12.1 0 9)) fun s13 => some s13) else chk (inb x1 48) (chk (nz r2) ((f_X9_with memory (s8.1 2 x1.toNatClampNeg) (r1 - r1 / r2 * r2)).bind fun r8 => nm (stI s8 0 10 r8) fun s9 => (if r2 = (0 : Int32) then nm (stI s9 0 9 (12 : Int32)) fun s11 => some s11 else nm (stI s9 0 9 (s9.1 0 9)) fun s10 => some s10))))) else (if (s3.1 1 x1.toNatClampNeg) = (5 : Int32) then chk (inb x1 48) ((f_X9_valueOf memory (s3.1 2 x1.toNatClampNeg)).bind fun r10 => (if r10 ≤ (0 : Int32) then nm (stI s3 0 9 (s3.1 0 9)) fun s22 => some s22 else chk (inb x1 48) ((f_X9_held p (s3.1 3 x1.toNatClampNeg) s3).bind fun r11 => nm (stI s3 0 9 r11) fun s23 => some s23))) else (if (s3.1 1 x1.toNatClampNeg) = (6 : Int32) then some s3 else (if (s3.1 1 x1.toNatClampNeg) = (7 : Int32) then nm (stI s3 0 9 (12 : Int32)) fun s24 => some s24 else some s3)))))))))))
abbrev rm_X9_work : Room := { frames := 1, cells := 0, slots := 0, locals := 23 }
set_option maxHeartbeats 4000000 in
set_option maxRecDepth 20000 in
theorem m_X9_work (l : Launch) (D : va_G) (cy : Cy) (q : Nat → Nat) (σ : St) (p : Int32) (line : Int32) (memory : Int32)  : ∀ res, f_X9_work p line memory σ = some res → MetX (vM D cy q) l yX9_work cX9_work 7 none rm_X9_work [.ref (q 0), .int p, .int line, .int memory] σ (none, res) := by
  let fin_ : St → Option Value × St := fun r => (none, r)
  have hro : ∀ (z : St) (res : St), some z = some res → fin_ res = fin_ z := fun z res h => by cases h; rfl
  refine MetX.of1 (fin := fin_) (lv := [(0, .ref (q 0)), (1, .int p), (2, .int line), (3, .int memory)]) (by decide) (Nat.le_of_ble_eq_true rfl) rfl ?_
  unfold f_X9_work
  refine g_bipush (pc := 0) (12) dX9_work_0 (by decide) ?_
  refine g_iload_n (pc := 2) 1 dX9_work_2 rfl rfl ?_
  refine g_imul (pc := 3) dX9_work_3 ?_
  refine g_iload_n (pc := 4) 2 dX9_work_4 rfl rfl ?_
  refine g_iadd (pc := 5) dX9_work_5 ?_
  refine g_nmi (fun x1 => ?_)
  refine g_istore (pc := 6) (lv' := [(4, .int x1), (0, .ref (q 0)), (1, .int p), (2, .int line), (3, .int memory)]) dX9_work_6 (Nat.le_of_ble_eq_true rfl) rfl ?_
  refine g_iload_n (pc := 8) 4 dX9_work_8 rfl rfl ?_
  refine g_aload_n (pc := 9) 1 dX9_work_9 rfl rfl ?_
  refine gf_9_seconds (pc := 10) kf_X9_16 dX9_work_10 ?_
  refine g_iload (pc := 13) 0 dX9_work_13 rfl ?_
  refine a_ild (pc := 15) aM_seconds dX9_work_15 ?_
  refine g_iconst (pc := 16) (3) dX9_work_16 (by decide) ?_
  refine g_iand (pc := 17) dX9_work_17 ?_
  refine gS_i (pc := 18) [.int memory, .int ((σ.1 3 x1.toNatClampNeg) &&& (3 : Int32))] [] (m_X9_valueOf l (vM D cy q) σ memory ((σ.1 3 x1.toNatClampNeg) &&& (3 : Int32))) cw_X9_valueOf km_X9_128 ⟨rfl, rfl, by decide, by decide⟩ dX9_work_18 rfl rfl (Nat.le_of_ble_eq_true rfl) (fun r1 => ?_)
  refine g_istore (pc := 21) (lv' := [(5, .int r1), (4, .int x1), (0, .ref (q 0)), (1, .int p), (2, .int line), (3, .int memory)]) dX9_work_21 (Nat.le_of_ble_eq_true rfl) rfl ?_
  refine g_iload_n (pc := 23) 5 dX9_work_23 rfl rfl ?_
  refine g_aload_n (pc := 24) 2 dX9_work_24 rfl rfl ?_
  refine gf_9_thirds (pc := 25) kf_X9_19 dX9_work_25 ?_
  refine g_iload (pc := 28) 1 dX9_work_28 rfl ?_
  refine a_ild (pc := 30) aM_thirds dX9_work_30 ?_
  refine g_iconst (pc := 31) (3) dX9_work_31 (by decide) ?_
  refine g_iand (pc := 32) dX9_work_32 ?_
  refine gS_i (pc := 33) [.int memory, .int ((σ.1 4 x1.toNatClampNeg) &&& (3 : Int32))] [] (m_X9_valueOf l (vM D cy q) σ memory ((σ.1 4 x1.toNatClampNeg) &&& (3 : Int32))) cw_X9_valueOf km_X9_128 ⟨rfl, rfl, by decide, by decide⟩ dX9_work_33 rfl rfl (Nat.le_of_ble_eq_true rfl) (fun r2 => ?_)
  refine g_istore (pc := 36) (lv' := [(6, .int r2), (5, .int r1), (4, .int x1), (0, .ref (q 0)), (1, .int p), (2, .int line), (3, .int memory)]) dX9_work_36 (Nat.le_of_ble_eq_true rfl) rfl ?_
  refine g_aload_n (pc := 38) 3 dX9_work_38 rfl rfl ?_
  refine g_iload_n (pc := 39) 6 dX9_work_39 rfl rfl ?_
  refine gp_9_nextMemory (pc := 40) kf_X9_131 dX9_work_40 (fun s1 => ?_)
  refine g_aload_n (pc := 43) 3 dX9_work_43 rfl rfl ?_
  refine g_aload_n (pc := 44) 3 dX9_work_44 rfl rfl ?_
  refine g_iload_n (pc := 45) 4 dX9_work_45 rfl rfl ?_
  refine g_iload_n (pc := 46) 5 dX9_work_46 rfl rfl ?_
  refine g_iconst (pc := 47) (1) dX9_work_47 (by decide) ?_
  refine g_iadd (pc := 48) dX9_work_48 ?_
  refine gV_i (pc := 49) [.int p, .int (line + (1 : Int32))] [.ref (q 0)] (m_X9_held l D cy q s1 p (line + (1 : Int32))) cw_X9_held km_X9_134 ⟨rfl, rfl, by decide, by decide⟩ (Nat.le_of_ble_eq_true rfl) (eM_9 (cy := cy) (s1.1 0) (s1.2 0)) rfl dX9_work_49 rfl rfl (Nat.le_of_ble_eq_true rfl) (fun r3 => ?_)
  refine gp_9_nextLine (pc := 52) kf_X9_137 dX9_work_52 (fun s2 => ?_)
  refine g_aload_n (pc := 55) 3 dX9_work_55 rfl rfl ?_
  refine g_iconst (pc := 56) (0) dX9_work_56 (by decide) ?_
  refine gp_9_endIs (pc := 57) kf_X9_140 dX9_work_57 (fun s3 => ?_)
  refine g_aload_n (pc := 60) 3 dX9_work_60 rfl rfl ?_
  refine gf_9_acts (pc := 61) kf_X9_7 dX9_work_61 ?_
  refine g_iload (pc := 64) 2 dX9_work_64 rfl ?_
  refine a_ild (pc := 66) aM_acts dX9_work_66 ?_
  refine g_if (fun c67_0 => ?_) (fun n67_0 => ?_)
  · refine g_tbl (pc := 67) (0) 112 dX9_work_67 (i32_eq (0) rfl c67_0) (by decide) (by decide) rfl (by decide) ?_
    refine g_aload_n (pc := 112) 3 dX9_work_112 rfl rfl ?_
    refine g_iload_n (pc := 113) 6 dX9_work_113 rfl rfl ?_
    refine g_aload_n (pc := 114) 3 dX9_work_114 rfl rfl ?_
    refine gf_9_firsts (pc := 115) kf_X9_13 dX9_work_115 ?_
    refine g_iload (pc := 118) 2 dX9_work_118 rfl ?_
    refine a_ild (pc := 120) aM_firsts dX9_work_120 ?_
    refine g_aload_n (pc := 121) 3 dX9_work_121 rfl rfl ?_
    refine gf_9_seconds (pc := 122) kf_X9_16 dX9_work_122 ?_
    refine g_iload (pc := 125) 2 dX9_work_125 rfl ?_
    refine a_ild (pc := 127) aM_seconds dX9_work_127 ?_
    refine gS_i (pc := 128) [.int memory, .int (s3.1 2 x1.toNatClampNeg), .int (s3.1 3 x1.toNatClampNeg)] [.ref (q 0)] (m_X9_with l D cy q s3 memory (s3.1 2 x1.toNatClampNeg) (s3.1 3 x1.toNatClampNeg)) cw_X9_with km_X9_143 ⟨rfl, rfl, by decide, by decide⟩ dX9_work_128 rfl rfl (Nat.le_of_ble_eq_true rfl) (fun r4 => ?_)
    refine gp_9_nextMemory (pc := 131) kf_X9_131 dX9_work_131 (fun s4 => ?_)
    refine g_goto (pc := 134) 320 dX9_work_134 (by decide) ?_
    exact g_vret (pc := 320) (hro _) rfl dX9_work_320
  · refine g_if (fun c67_1 => ?_) (fun n67_1 => ?_)
    · refine g_tbl (pc := 67) (1) 137 dX9_work_67 (i32_eq (1) rfl c67_1) (by decide) (by decide) rfl (by decide) ?_
      refine g_aload_n (pc := 137) 3 dX9_work_137 rfl rfl ?_
      refine g_iload_n (pc := 138) 6 dX9_work_138 rfl rfl ?_
      refine g_aload_n (pc := 139) 3 dX9_work_139 rfl rfl ?_
      refine gf_9_firsts (pc := 140) kf_X9_13 dX9_work_140 ?_
      refine g_iload (pc := 143) 2 dX9_work_143 rfl ?_
      refine a_ild (pc := 145) aM_firsts dX9_work_145 ?_
      refine g_iload (pc := 146) 1 dX9_work_146 rfl ?_
      refine gS_i (pc := 148) [.int memory, .int (s3.1 2 x1.toNatClampNeg), .int r1] [.ref (q 0)] (m_X9_with l D cy q s3 memory (s3.1 2 x1.toNatClampNeg) r1) cw_X9_with km_X9_143 ⟨rfl, rfl, by decide, by decide⟩ dX9_work_148 rfl rfl (Nat.le_of_ble_eq_true rfl) (fun r5 => ?_)
      refine gp_9_nextMemory (pc := 151) kf_X9_131 dX9_work_151 (fun s5 => ?_)
      refine g_goto (pc := 154) 320 dX9_work_154 (by decide) ?_
      exact g_vret (pc := 320) (hro _) rfl dX9_work_320
    · refine g_if (fun c67_2 => ?_) (fun n67_2 => ?_)
      · refine g_tbl (pc := 67) (2) 157 dX9_work_67 (i32_eq (2) rfl c67_2) (by decide) (by decide) rfl (by decide) ?_
        refine g_aload_n (pc := 157) 3 dX9_work_157 rfl rfl ?_
        refine g_iload_n (pc := 158) 6 dX9_work_158 rfl rfl ?_
        refine g_aload_n (pc := 159) 3 dX9_work_159 rfl rfl ?_
        refine gf_9_firsts (pc := 160) kf_X9_13 dX9_work_160 ?_
        refine g_iload (pc := 163) 2 dX9_work_163 rfl ?_
        refine a_ild (pc := 165) aM_firsts dX9_work_165 ?_
        refine g_iload (pc := 166) 1 dX9_work_166 rfl ?_
        refine g_iload (pc := 168) 0 dX9_work_168 rfl ?_
        refine g_iadd (pc := 170) dX9_work_170 ?_
        refine g_iconst (pc := 171) (3) dX9_work_171 (by decide) ?_
        refine g_iand (pc := 172) dX9_work_172 ?_
        refine gS_i (pc := 173) [.int memory, .int (s3.1 2 x1.toNatClampNeg), .int ((r1 + r2) &&& (3 : Int32))] [.ref (q 0)] (m_X9_with l D cy q s3 memory (s3.1 2 x1.toNatClampNeg) ((r1 + r2) &&& (3 : Int32))) cw_X9_with km_X9_143 ⟨rfl, rfl, by decide, by decide⟩ dX9_work_173 rfl rfl (Nat.le_of_ble_eq_true rfl) (fun r6 => ?_)
        refine gp_9_nextMemory (pc := 176) kf_X9_131 dX9_work_176 (fun s6 => ?_)
        refine g_goto (pc := 179) 320 dX9_work_179 (by decide) ?_
        exact g_vret (pc := 320) (hro _) rfl dX9_work_320
      · refine g_if (fun c67_3 => ?_) (fun n67_3 => ?_)
        · refine g_tbl (pc := 67) (3) 182 dX9_work_67 (i32_eq (3) rfl c67_3) (by decide) (by decide) rfl (by decide) ?_
          refine g_aload_n (pc := 182) 3 dX9_work_182 rfl rfl ?_
          refine g_iload_n (pc := 183) 6 dX9_work_183 rfl rfl ?_
          refine g_aload_n (pc := 184) 3 dX9_work_184 rfl rfl ?_
          refine gf_9_firsts (pc := 185) kf_X9_13 dX9_work_185 ?_
          refine g_iload (pc := 188) 2 dX9_work_188 rfl ?_
          refine a_ild (pc := 190) aM_firsts dX9_work_190 ?_
          refine g_iload (pc := 191) 1 dX9_work_191 rfl ?_
          refine g_iload (pc := 193) 0 dX9_work_193 rfl ?_
          refine g_isub (pc := 195) dX9_work_195 ?_
          refine g_iconst (pc := 196) (3) dX9_work_196 (by decide) ?_
          refine g_iand (pc := 197) dX9_work_197 ?_
          refine gS_i (pc := 198) [.int memory, .int (s3.1 2 x1.toNatClampNeg), .int ((r1 - r2) &&& (3 : Int32))] [.ref (q 0)] (m_X9_with l D cy q s3 memory (s3.1 2 x1.toNatClampNeg) ((r1 - r2) &&& (3 : Int32))) cw_X9_with km_X9_143 ⟨rfl, rfl, by decide, by decide⟩ dX9_work_198 rfl rfl (Nat.le_of_ble_eq_true rfl) (fun r7 => ?_)
          refine gp_9_nextMemory (pc := 201) kf_X9_131 dX9_work_201 (fun s7 => ?_)
          refine g_goto (pc := 204) 320 dX9_work_204 (by decide) ?_
          exact g_vret (pc := 320) (hro _) rfl dX9_work_320
        · refine g_if (fun c67_4 => ?_) (fun n67_4 => ?_)
          · refine g_tbl (pc := 67) (4) 207 dX9_work_67 (i32_eq (4) rfl c67_4) (by decide) (by decide) rfl (by decide) ?_
            refine g_aload_n (pc := 207) 3 dX9_work_207 rfl rfl ?_
            refine g_iload (pc := 208) 0 dX9_work_208 rfl ?_
            refine g_if_ne (pc := 210) 217 dX9_work_210 (by decide) ?_ ?_
            · refine g_iconst (pc := 217) (0) dX9_work_217 (by decide) ?_
              refine gp_9_endIs (pc := 218) kf_X9_140 dX9_work_218 (fun s8 => ?_)
              refine g_aload_n (pc := 221) 3 dX9_work_221 rfl rfl ?_
              refine g_iload (pc := 222) 0 dX9_work_222 rfl ?_
              refine g_if_ne (pc := 224) 231 dX9_work_224 (by decide) ?_ ?_
              · refine g_iload_n (pc := 231) 6 dX9_work_231 rfl rfl ?_
                refine g_aload_n (pc := 232) 3 dX9_work_232 rfl rfl ?_
                refine gf_9_firsts (pc := 233) kf_X9_13 dX9_work_233 ?_
                refine g_iload (pc := 236) 2 dX9_work_236 rfl ?_
                refine a_ild (pc := 238) aM_firsts dX9_work_238 ?_
                refine g_iload (pc := 239) 1 dX9_work_239 rfl ?_
                refine g_iload (pc := 241) 0 dX9_work_241 rfl ?_
                refine g_irem (pc := 243) dX9_work_243 ?_
                refine gS_i (pc := 244) [.int memory, .int (s8.1 2 x1.toNatClampNeg), .int (r1 - r1 / r2 * r2)] [.ref (q 0)] (m_X9_with l D cy q s8 memory (s8.1 2 x1.toNatClampNeg) (r1 - r1 / r2 * r2)) cw_X9_with km_X9_143 ⟨rfl, rfl, by decide, by decide⟩ dX9_work_244 rfl rfl (Nat.le_of_ble_eq_true rfl) (fun r8 => ?_)
                refine gp_9_nextMemory (pc := 247) kf_X9_131 dX9_work_247 (fun s9 => ?_)
                refine g_aload_n (pc := 250) 3 dX9_work_250 rfl rfl ?_
                refine g_iload (pc := 251) 0 dX9_work_251 rfl ?_
                refine g_if_ne (pc := 253) 261 dX9_work_253 (by decide) ?_ ?_
                · refine g_aload_n (pc := 261) 3 dX9_work_261 rfl rfl ?_
                  refine gf_9_nextLine (pc := 262) kf_X9_137 dX9_work_262 ?_
                  refine gp_9_nextLine (pc := 265) kf_X9_137 dX9_work_265 (fun s10 => ?_)
                  refine g_goto (pc := 268) 320 dX9_work_268 (by decide) ?_
                  exact g_vret (pc := 320) (hro _) rfl dX9_work_320
                · refine g_bipush (pc := 256) (12) dX9_work_256 (by decide) ?_
                  refine g_goto (pc := 258) 265 dX9_work_258 (by decide) ?_
                  refine gp_9_nextLine (pc := 265) kf_X9_137 dX9_work_265 (fun s11 => ?_)
                  refine g_goto (pc := 268) 320 dX9_work_268 (by decide) ?_
                  exact g_vret (pc := 320) (hro _) rfl dX9_work_320
              · refine g_iload_n (pc := 227) 6 dX9_work_227 rfl rfl ?_
                refine g_goto (pc := 228) 247 dX9_work_228 (by decide) ?_
                refine gp_9_nextMemory (pc := 247) kf_X9_131 dX9_work_247 (fun s12 => ?_)
                refine g_aload_n (pc := 250) 3 dX9_work_250 rfl rfl ?_
                refine g_iload (pc := 251) 0 dX9_work_251 rfl ?_
                refine g_if_ne (pc := 253) 261 dX9_work_253 (by decide) ?_ ?_
                · refine g_aload_n (pc := 261) 3 dX9_work_261 rfl rfl ?_
                  refine gf_9_nextLine (pc := 262) kf_X9_137 dX9_work_262 ?_
                  refine gp_9_nextLine (pc := 265) kf_X9_137 dX9_work_265 (fun s13 => ?_)
                  refine g_goto (pc := 268) 320 dX9_work_268 (by decide) ?_
                  exact g_vret (pc := 320) (hro _) rfl dX9_work_320
                · refine g_bipush (pc := 256) (12) dX9_work_256 (by decide) ?_
                  refine g_goto (pc := 258) 265 dX9_work_258 (by decide) ?_
                  refine gp_9_nextLine (pc := 265) kf_X9_137 dX9_work_265 (fun s14 => ?_)
                  refine g_goto (pc := 268) 320 dX9_work_268 (by decide) ?_
                  exact g_vret (pc := 320) (hro _) rfl dX9_work_320
            · refine g_iconst (pc := 213) (1) dX9_work_213 (by decide) ?_
              refine g_goto (pc := 214) 218 dX9_work_214 (by decide) ?_
              refine gp_9_endIs (pc := 218) kf_X9_140 dX9_work_218 (fun s15 => ?_)
              refine g_aload_n (pc := 221) 3 dX9_work_221 rfl rfl ?_
              refine g_iload (pc := 222) 0 dX9_work_222 rfl ?_
              refine g_if_ne (pc := 224) 231 dX9_work_224 (by decide) ?_ ?_
              · refine g_iload_n (pc := 231) 6 dX9_work_231 rfl rfl ?_
                refine g_aload_n (pc := 232) 3 dX9_work_232 rfl rfl ?_
                refine gf_9_firsts (pc := 233) kf_X9_13 dX9_work_233 ?_
                refine g_iload (pc := 236) 2 dX9_work_236 rfl ?_
                refine a_ild (pc := 238) aM_firsts dX9_work_238 ?_
                refine g_iload (pc := 239) 1 dX9_work_239 rfl ?_
                refine g_iload (pc := 241) 0 dX9_work_241 rfl ?_
                refine g_irem (pc := 243) dX9_work_243 ?_
                refine gS_i (pc := 244) [.int memory, .int (s15.1 2 x1.toNatClampNeg), .int (r1 - r1 / r2 * r2)] [.ref (q 0)] (m_X9_with l D cy q s15 memory (s15.1 2 x1.toNatClampNeg) (r1 - r1 / r2 * r2)) cw_X9_with km_X9_143 ⟨rfl, rfl, by decide, by decide⟩ dX9_work_244 rfl rfl (Nat.le_of_ble_eq_true rfl) (fun r9 => ?_)
                refine gp_9_nextMemory (pc := 247) kf_X9_131 dX9_work_247 (fun s16 => ?_)
                refine g_aload_n (pc := 250) 3 dX9_work_250 rfl rfl ?_
                refine g_iload (pc := 251) 0 dX9_work_251 rfl ?_
                refine g_if_ne (pc := 253) 261 dX9_work_253 (by decide) ?_ ?_
                · refine g_aload_n (pc := 261) 3 dX9_work_261 rfl rfl ?_
                  refine gf_9_nextLine (pc := 262) kf_X9_137 dX9_work_262 ?_
                  refine gp_9_nextLine (pc := 265) kf_X9_137 dX9_work_265 (fun s17 => ?_)
                  refine g_goto (pc := 268) 320 dX9_work_268 (by decide) ?_
                  exact g_vret (pc := 320) (hro _) rfl dX9_work_320
                · refine g_bipush (pc := 256) (12) dX9_work_256 (by decide) ?_
                  refine g_goto (pc := 258) 265 dX9_work_258 (by decide) ?_
                  refine gp_9_nextLine (pc := 265) kf_X9_137 dX9_work_265 (fun s18 => ?_)
                  refine g_goto (pc := 268) 320 dX9_work_268 (by decide) ?_
                  exact g_vret (pc := 320) (hro _) rfl dX9_work_320
              · refine g_iload_n (pc := 227) 6 dX9_work_227 rfl rfl ?_
                refine g_goto (pc := 228) 247 dX9_work_228 (by decide) ?_
                refine gp_9_nextMemory (pc := 247) kf_X9_131 dX9_work_247 (fun s19 => ?_)
                refine g_aload_n (pc := 250) 3 dX9_work_250 rfl rfl ?_
                refine g_iload (pc := 251) 0 dX9_work_251 rfl ?_
                refine g_if_ne (pc := 253) 261 dX9_work_253 (by decide) ?_ ?_
                · refine g_aload_n (pc := 261) 3 dX9_work_261 rfl rfl ?_
                  refine gf_9_nextLine (pc := 262) kf_X9_137 dX9_work_262 ?_
                  refine gp_9_nextLine (pc := 265) kf_X9_137 dX9_work_265 (fun s20 => ?_)
                  refine g_goto (pc := 268) 320 dX9_work_268 (by decide) ?_
                  exact g_vret (pc := 320) (hro _) rfl dX9_work_320
                · refine g_bipush (pc := 256) (12) dX9_work_256 (by decide) ?_
                  refine g_goto (pc := 258) 265 dX9_work_258 (by decide) ?_
                  refine gp_9_nextLine (pc := 265) kf_X9_137 dX9_work_265 (fun s21 => ?_)
                  refine g_goto (pc := 268) 320 dX9_work_268 (by decide) ?_
                  exact g_vret (pc := 320) (hro _) rfl dX9_work_320
          · refine g_if (fun c67_5 => ?_) (fun n67_5 => ?_)
            · refine g_tbl (pc := 67) (5) 271 dX9_work_67 (i32_eq (5) rfl c67_5) (by decide) (by decide) rfl (by decide) ?_
              refine g_aload_n (pc := 271) 3 dX9_work_271 rfl rfl ?_
              refine g_iload_n (pc := 272) 6 dX9_work_272 rfl rfl ?_
              refine g_aload_n (pc := 273) 3 dX9_work_273 rfl rfl ?_
              refine gf_9_firsts (pc := 274) kf_X9_13 dX9_work_274 ?_
              refine g_iload (pc := 277) 2 dX9_work_277 rfl ?_
              refine a_ild (pc := 279) aM_firsts dX9_work_279 ?_
              refine gS_i (pc := 280) [.int memory, .int (s3.1 2 x1.toNatClampNeg)] [.ref (q 0)] (m_X9_valueOf l (vM D cy q) s3 memory (s3.1 2 x1.toNatClampNeg)) cw_X9_valueOf km_X9_128 ⟨rfl, rfl, by decide, by decide⟩ dX9_work_280 rfl rfl (Nat.le_of_ble_eq_true rfl) (fun r10 => ?_)
              refine g_if_le (pc := 283) 301 dX9_work_283 (by decide) ?_ ?_
              · refine g_aload_n (pc := 301) 3 dX9_work_301 rfl rfl ?_
                refine gf_9_nextLine (pc := 302) kf_X9_137 dX9_work_302 ?_
                refine gp_9_nextLine (pc := 305) kf_X9_137 dX9_work_305 (fun s22 => ?_)
                refine g_goto (pc := 308) 320 dX9_work_308 (by decide) ?_
                exact g_vret (pc := 320) (hro _) rfl dX9_work_320
              · refine g_aload_n (pc := 286) 3 dX9_work_286 rfl rfl ?_
                refine g_iload_n (pc := 287) 4 dX9_work_287 rfl rfl ?_
                refine g_aload_n (pc := 288) 3 dX9_work_288 rfl rfl ?_
                refine gf_9_seconds (pc := 289) kf_X9_16 dX9_work_289 ?_
                refine g_iload (pc := 292) 2 dX9_work_292 rfl ?_
                refine a_ild (pc := 294) aM_seconds dX9_work_294 ?_
                refine gV_i (pc := 295) [.int p, .int (s3.1 3 x1.toNatClampNeg)] [.ref (q 0)] (m_X9_held l D cy q s3 p (s3.1 3 x1.toNatClampNeg)) cw_X9_held km_X9_134 ⟨rfl, rfl, by decide, by decide⟩ (Nat.le_of_ble_eq_true rfl) (eM_9 (cy := cy) (s3.1 0) (s3.2 0)) rfl dX9_work_295 rfl rfl (Nat.le_of_ble_eq_true rfl) (fun r11 => ?_)
                refine g_goto (pc := 298) 305 dX9_work_298 (by decide) ?_
                refine gp_9_nextLine (pc := 305) kf_X9_137 dX9_work_305 (fun s23 => ?_)
                refine g_goto (pc := 308) 320 dX9_work_308 (by decide) ?_
                exact g_vret (pc := 320) (hro _) rfl dX9_work_320
            · refine g_if (fun c67_6 => ?_) (fun n67_6 => ?_)
              · refine g_tbl (pc := 67) (6) 320 dX9_work_67 (i32_eq (6) rfl c67_6) (by decide) (by decide) rfl (by decide) ?_
                exact g_vret (pc := 320) (hro _) rfl dX9_work_320
              · refine g_if (fun c67_7 => ?_) (fun n67_7 => ?_)
                · refine g_tbl (pc := 67) (7) 311 dX9_work_67 (i32_eq (7) rfl c67_7) (by decide) (by decide) rfl (by decide) ?_
                  refine g_aload_n (pc := 311) 3 dX9_work_311 rfl rfl ?_
                  refine g_bipush (pc := 312) (12) dX9_work_312 (by decide) ?_
                  refine gp_9_nextLine (pc := 314) kf_X9_137 dX9_work_314 (fun s24 => ?_)
                  refine g_goto (pc := 317) 320 dX9_work_317 (by decide) ?_
                  exact g_vret (pc := 320) (hro _) rfl dX9_work_320
                · refine g_tblOut (pc := 67) 320 dX9_work_67 (by have e0 := i32_ne (0) rfl n67_0; have e1 := i32_ne (1) rfl n67_1; have e2 := i32_ne (2) rfl n67_2; have e3 := i32_ne (3) rfl n67_3; have e4 := i32_ne (4) rfl n67_4; have e5 := i32_ne (5) rfl n67_5; have e6 := i32_ne (6) rfl n67_6; have e7 := i32_ne (7) rfl n67_7; omega) (by decide) ?_
                  exact g_vret (pc := 320) (hro _) rfl dX9_work_320
