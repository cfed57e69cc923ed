def f_X8_keyOf (number : Int32) (p : Int32) (q_ : Int32) : Option (Int32) := some ((((number * (4 : Int32)) + p) * (4 : Int32)) + q_)
abbrev rm_X8_keyOf : Room := { frames := 0, cells := 0, slots := 0, locals := 0 }
set_option maxHeartbeats 4000000 in
set_option maxRecDepth 20000 in
theorem m_X8_keyOf (l : Launch) (D : va_G) (cy : Cy) (q : Nat → Nat) (σ : St) (number : Int32) (p : Int32) (q_ : Int32)  : ∀ res, f_X8_keyOf number p q_ = some res → MetX (vX D cy q) l yX8_keyOf cX8_keyOf 3 (some .int) rm_X8_keyOf [.int number, .int p, .int q_] σ (some (.int res), σ) := by
  let fin_ : Int32 → Option Value × St := fun r => (some (.int r), σ)
  have hro : ∀ (z : Int32) (res : Int32), some z = some res → fin_ res = fin_ z := fun z res h => by cases h; rfl
  refine MetX.of1 (fin := fin_) (lv := [(0, .int number), (1, .int p), (2, .int q_)]) (by decide) (Nat.le_of_ble_eq_true rfl) rfl ?_
  unfold f_X8_keyOf
  refine g_iload_n (pc := 0) 0 dX8_keyOf_0 rfl rfl ?_
  refine g_iconst (pc := 1) (4) dX8_keyOf_1 (by decide) ?_
  refine g_imul (pc := 2) dX8_keyOf_2 ?_
  refine g_iload_n (pc := 3) 1 dX8_keyOf_3 rfl rfl ?_
  refine g_iadd (pc := 4) dX8_keyOf_4 ?_
  refine g_iconst (pc := 5) (4) dX8_keyOf_5 (by decide) ?_
  refine g_imul (pc := 6) dX8_keyOf_6 ?_
  refine g_iload_n (pc := 7) 2 dX8_keyOf_7 rfl rfl ?_
  refine g_iadd (pc := 8) dX8_keyOf_8 ?_
  exact g_iret (pc := 9) (hro _) rfl dX8_keyOf_9
def f_X8_holds (saying : Int32) (p : Int32) (q_ : Int32) (what : Int32) (σ : St) : Option (Int32 × St) := (f_X8_isSaying saying σ).bind fun r1 => (if r1 = (0 : Int32) then some ((-1 : Int32), σ) else (f_X8_isProgram p).bind fun r2 => (if r2 = (0 : Int32) then some ((-1 : Int32), σ) else (f_X8_isProgram q_).bind fun r3 => (if r3 = (0 : Int32) then some ((-1 : Int32), σ) else (f_X8_isWithin what (3 : Int32)).bind fun r4 => (if r4 = (0 : Int32) then some ((-2 : Int32), σ) else (f_X8_keyOf saying p q_).bind fun r5 => (if (σ.1 72 1) = r5 then (if what = (0 : Int32) then some ((σ.1 72 2), σ) else (if what = (1 : Int32) then some ((σ.1 72 3), σ) else (if what = (2 : Int32) then some ((σ.1 72 4), σ) else some ((σ.1 72 5), σ)))) else chk (inb saying 6) (nm (57 + 2 * saying.toNatClampNeg) fun k1 => chk (inb p 4) (nm (4 + 13 * p.toNatClampNeg) fun k2 => chk (inb q_ 4) (nm (4 + 13 * q_.toNatClampNeg) fun k3 => (f_X3_judge k1 k2 k3 σ).bind fun s1 => nm (stI s1 72 1 r5) fun s2 => (if what = (0 : Int32) then some ((s2.1 72 2), s2) else (if what = (1 : Int32) then some ((s2.1 72 3), s2) else (if what = (2 : Int32) then some ((s2.1 72 4), s2) else some ((s2.1 72 5), s2))))))))))))
abbrev rm_X8_holds : Room := { frames := 5, cells := 0, slots := 0, locals := 125 }
set_option maxHeartbeats 4000000 in
set_option maxRecDepth 20000 in
theorem m_X8_holds (l : Launch) (D : va_G) (cy : Cy) (q : Nat → Nat) (σ : St) (saying : Int32) (p : Int32) (q_ : Int32) (what : Int32)  : ∀ res, f_X8_holds saying p q_ what σ = some res → MetX (vX D cy q) l yX8_holds cX8_holds 6 (some .int) rm_X8_holds [.ref (q 87), .int saying, .int p, .int q_, .int what] σ (some (.int res.1), res.2) := by
  let fin_ : (Int32 × St) → Option Value × St := fun r => (some (.int r.1), r.2)
  have hro : ∀ (z : Int32 × St) (res : Int32 × St), some z = some res → fin_ res = fin_ z := fun z res h => by cases h; rfl
  refine MetX.of1 (fin := fin_) (lv := [(0, .ref (q 87)), (1, .int saying), (2, .int p), (3, .int q_), (4, .int what)]) (by decide) (Nat.le_of_ble_eq_true rfl) rfl ?_
  unfold f_X8_holds
  refine g_aload_n (pc := 0) 0 dX8_holds_0 rfl rfl ?_
  refine g_iload_n (pc := 1) 1 dX8_holds_1 rfl rfl ?_
  refine gV_i (pc := 2) [.int saying] [] (m_X8_isSaying l D cy q σ saying) cw_X8_isSaying km_X8_140 ⟨rfl, rfl, by decide, by decide⟩ (Nat.le_of_ble_eq_true rfl) (eX_8 (cy := cy) (σ.1 87) (σ.2 87)) rfl dX8_holds_2 rfl rfl (Nat.le_of_ble_eq_true rfl) (fun r1 => ?_)
  refine g_if_eq (pc := 5) 22 dX8_holds_5 (by decide) ?_ ?_
  · refine g_iconst (pc := 22) (-1) dX8_holds_22 (by decide) ?_
    exact g_iret (pc := 23) (hro _) rfl dX8_holds_23
  · refine g_iload_n (pc := 8) 2 dX8_holds_8 rfl rfl ?_
    refine gS_i (pc := 9) [.int p] [] (m_X8_isProgram l D cy q σ p) cw_X8_isProgram km_X8_73 ⟨rfl, rfl, by decide, by decide⟩ dX8_holds_9 rfl rfl (Nat.le_of_ble_eq_true rfl) (fun r2 => ?_)
    refine g_if_eq (pc := 12) 22 dX8_holds_12 (by decide) ?_ ?_
    · refine g_iconst (pc := 22) (-1) dX8_holds_22 (by decide) ?_
      exact g_iret (pc := 23) (hro _) rfl dX8_holds_23
    · refine g_iload_n (pc := 15) 3 dX8_holds_15 rfl rfl ?_
      refine gS_i (pc := 16) [.int q_] [] (m_X8_isProgram l D cy q σ q_) cw_X8_isProgram km_X8_73 ⟨rfl, rfl, by decide, by decide⟩ dX8_holds_16 rfl rfl (Nat.le_of_ble_eq_true rfl) (fun r3 => ?_)
      refine g_if_ne (pc := 19) 24 dX8_holds_19 (by decide) ?_ ?_
      · refine g_iload (pc := 24) 4 dX8_holds_24 rfl ?_
        refine g_iconst (pc := 26) (3) dX8_holds_26 (by decide) ?_
        refine gS_i (pc := 27) [.int what, .int (3 : Int32)] [] (m_X8_isWithin l D cy q σ what (3 : Int32)) cw_X8_isWithin km_X8_99 ⟨rfl, rfl, by decide, by decide⟩ dX8_holds_27 rfl rfl (Nat.le_of_ble_eq_true rfl) (fun r4 => ?_)
        refine g_if_ne (pc := 30) 36 dX8_holds_30 (by decide) ?_ ?_
        · refine g_iload_n (pc := 36) 1 dX8_holds_36 rfl rfl ?_
          refine g_iload_n (pc := 37) 2 dX8_holds_37 rfl rfl ?_
          refine g_iload_n (pc := 38) 3 dX8_holds_38 rfl rfl ?_
          refine gS_i (pc := 39) [.int saying, .int p, .int q_] [] (m_X8_keyOf l D cy q σ saying p q_) cw_X8_keyOf km_X8_153 ⟨rfl, rfl, by decide, by decide⟩ dX8_holds_39 rfl rfl (Nat.le_of_ble_eq_true rfl) (fun r5 => ?_)
          refine g_istore (pc := 42) (lv' := [(5, .int r5), (0, .ref (q 87)), (1, .int saying), (2, .int p), (3, .int q_), (4, .int what)]) dX8_holds_42 (Nat.le_of_ble_eq_true rfl) rfl ?_
          refine g_aload_n (pc := 44) 1 dX8_holds_44 rfl rfl ?_
          refine gf_8_pairs (pc := 45) kf_X8_48 dX8_holds_45 ?_
          refine gf_3_key (pc := 48) kf_X8_157 dX8_holds_48 ?_
          refine g_iload (pc := 51) 0 dX8_holds_51 rfl ?_
          refine g_icmp_eq (pc := 53) 90 dX8_holds_53 (by decide) ?_ ?_
          · refine g_iload (pc := 90) 5 dX8_holds_90 rfl ?_
            refine g_if (fun c92_0 => ?_) (fun n92_0 => ?_)
            · refine g_tbl (pc := 92) (0) 120 dX8_holds_92 (i32_eq (0) rfl c92_0) (by decide) (by decide) rfl (by decide) ?_
              refine g_aload_n (pc := 120) 1 dX8_holds_120 rfl rfl ?_
              refine gf_8_pairs (pc := 121) kf_X8_48 dX8_holds_121 ?_
              refine gf_3_broken (pc := 124) kf_X8_164 dX8_holds_124 ?_
              exact g_iret (pc := 127) (hro _) rfl dX8_holds_127
            · refine g_if (fun c92_1 => ?_) (fun n92_1 => ?_)
              · refine g_tbl (pc := 92) (1) 128 dX8_holds_92 (i32_eq (1) rfl c92_1) (by decide) (by decide) rfl (by decide) ?_
                refine g_aload_n (pc := 128) 1 dX8_holds_128 rfl rfl ?_
                refine gf_8_pairs (pc := 129) kf_X8_48 dX8_holds_129 ?_
                refine gf_3_firstBroken (pc := 132) kf_X8_167 dX8_holds_132 ?_
                exact g_iret (pc := 135) (hro _) rfl dX8_holds_135
              · refine g_if (fun c92_2 => ?_) (fun n92_2 => ?_)
                · refine g_tbl (pc := 92) (2) 136 dX8_holds_92 (i32_eq (2) rfl c92_2) (by decide) (by decide) rfl (by decide) ?_
                  refine g_aload_n (pc := 136) 1 dX8_holds_136 rfl rfl ?_
                  refine gf_8_pairs (pc := 137) kf_X8_48 dX8_holds_137 ?_
                  refine gf_3_meant (pc := 140) kf_X8_170 dX8_holds_140 ?_
                  exact g_iret (pc := 143) (hro _) rfl dX8_holds_143
                · refine g_tblOut (pc := 92) 144 dX8_holds_92 (by have e0 := i32_ne (0) rfl n92_0; have e1 := i32_ne (1) rfl n92_1; have e2 := i32_ne (2) rfl n92_2; omega) (by decide) ?_
                  refine g_aload_n (pc := 144) 1 dX8_holds_144 rfl rfl ?_
                  refine gf_8_pairs (pc := 145) kf_X8_48 dX8_holds_145 ?_
                  refine gf_3_lone (pc := 148) kf_X8_173 dX8_holds_148 ?_
                  exact g_iret (pc := 151) (hro _) rfl dX8_holds_151
          · refine g_aload_n (pc := 56) 1 dX8_holds_56 rfl rfl ?_
            refine gf_8_pairs (pc := 57) kf_X8_48 dX8_holds_57 ?_
            refine g_aload_n (pc := 60) 1 dX8_holds_60 rfl rfl ?_
            refine gf_8_sayings (pc := 61) kf_X8_23 dX8_holds_61 ?_
            refine g_iload_n (pc := 64) 2 dX8_holds_64 rfl rfl ?_
            refine g_aald (pc := 65) (k := 56) (t0 := 4) (C0 := RX5) (fun j => 57 + 2 * j) (Nat.le_of_ble_eq_true rfl) rfl (fun _ => rfl) rfl dX8_holds_65 (fun k1 h0 => ?_)
            have hk1 := isS_6 h0
            refine g_aload_n (pc := 66) 1 dX8_holds_66 rfl rfl ?_
            refine gf_8_programs (pc := 67) kf_X8_14 dX8_holds_67 ?_
            refine g_iload_n (pc := 70) 3 dX8_holds_70 rfl rfl ?_
            refine g_aald (pc := 71) (k := 3) (t0 := 3) (C0 := RX4) (fun j => 4 + 13 * j) (Nat.le_of_ble_eq_true rfl) rfl (fun _ => rfl) rfl dX8_holds_71 (fun k2 h0 => ?_)
            have hk2 := isP_4 h0
            refine g_aload_n (pc := 72) 1 dX8_holds_72 rfl rfl ?_
            refine gf_8_programs (pc := 73) kf_X8_14 dX8_holds_73 ?_
            refine g_iload_n (pc := 76) 4 dX8_holds_76 rfl rfl ?_
            refine g_aald (pc := 77) (k := 3) (t0 := 3) (C0 := RX4) (fun j => 4 + 13 * j) (Nat.le_of_ble_eq_true rfl) rfl (fun _ => rfl) rfl dX8_holds_77 (fun k3 h0 => ?_)
            have hk3 := isP_4 h0
            refine gV_v (pc := 78) [.ref (q k1), .ref (q k2), .ref (q k3)] [] (m_X3_judge l D cy q σ k1 k2 k3 hk1 hk2 hk3) cw_X3_judge km_X8_160 ⟨rfl, rfl, by decide, by decide⟩ (Nat.le_of_ble_eq_true rfl) (eX_3 (cy := cy) (σ.1 72) (σ.2 72)) rfl dX8_holds_78 rfl rfl (Nat.le_of_ble_eq_true rfl) (fun s1 => ?_)
            refine g_aload_n (pc := 81) 1 dX8_holds_81 rfl rfl ?_
            refine gf_8_pairs (pc := 82) kf_X8_48 dX8_holds_82 ?_
            refine g_iload (pc := 85) 0 dX8_holds_85 rfl ?_
            refine gp_3_key (pc := 87) kf_X8_157 dX8_holds_87 (fun s2 => ?_)
            refine g_iload (pc := 90) 5 dX8_holds_90 rfl ?_
            refine g_if (fun c92_0 => ?_) (fun n92_0 => ?_)
            · refine g_tbl (pc := 92) (0) 120 dX8_holds_92 (i32_eq (0) rfl c92_0) (by decide) (by decide) rfl (by decide) ?_
              refine g_aload_n (pc := 120) 1 dX8_holds_120 rfl rfl ?_
              refine gf_8_pairs (pc := 121) kf_X8_48 dX8_holds_121 ?_
              refine gf_3_broken (pc := 124) kf_X8_164 dX8_holds_124 ?_
              exact g_iret (pc := 127) (hro _) rfl dX8_holds_127
            · refine g_if (fun c92_1 => ?_) (fun n92_1 => ?_)
              · refine g_tbl (pc := 92) (1) 128 dX8_holds_92 (i32_eq (1) rfl c92_1) (by decide) (by decide) rfl (by decide) ?_
                refine g_aload_n (pc := 128) 1 dX8_holds_128 rfl rfl ?_
                refine gf_8_pairs (pc := 129) kf_X8_48 dX8_holds_129 ?_
                refine gf_3_firstBroken (pc := 132) kf_X8_167 dX8_holds_132 ?_
                exact g_iret (pc := 135) (hro _) rfl dX8_holds_135
              · refine g_if (fun c92_2 => ?_) (fun n92_2 => ?_)
                · refine g_tbl (pc := 92) (2) 136 dX8_holds_92 (i32_eq (2) rfl c92_2) (by decide) (by decide) rfl (by decide) ?_
                  refine g_aload_n (pc := 136) 1 dX8_holds_136 rfl rfl ?_
                  refine gf_8_pairs (pc := 137) kf_X8_48 dX8_holds_137 ?_
                  refine gf_3_meant (pc := 140) kf_X8_170 dX8_holds_140 ?_
                  exact g_iret (pc := 143) (hro _) rfl dX8_holds_143
                · refine g_tblOut (pc := 92) 144 dX8_holds_92 (by have e0 := i32_ne (0) rfl n92_0; have e1 := i32_ne (1) rfl n92_1; have e2 := i32_ne (2) rfl n92_2; omega) (by decide) ?_
                  refine g_aload_n (pc := 144) 1 dX8_holds_144 rfl rfl ?_
                  refine gf_8_pairs (pc := 145) kf_X8_48 dX8_holds_145 ?_
                  refine gf_3_lone (pc := 148) kf_X8_173 dX8_holds_148 ?_
                  exact g_iret (pc := 151) (hro _) rfl dX8_holds_151
        · refine g_bipush (pc := 33) (-2) dX8_holds_33 (by decide) ?_
          exact g_iret (pc := 35) (hro _) rfl dX8_holds_35
      · refine g_iconst (pc := 22) (-1) dX8_holds_22 (by decide) ?_
        exact g_iret (pc := 23) (hro _) rfl dX8_holds_23
def b_X8_part_58 (p : Int32) (start : Int32) (q_ : Int32) (other : Int32) (s2 : St) : (Int32) → Option ((Int32) ⊕ ((Unit) ⊕ (Int32 × St))) := fun y1 => (if (24 : Int32) < y1 then some (.inr (.inl ())) else chk (inb p 4) (nm (4 + 13 * p.toNatClampNeg) fun k3 => (f_X4_lineAhead k3 start y1 s2).bind fun r5 => chk (inb q_ 4) (nm (4 + 13 * q_.toNatClampNeg) fun k4 => (f_X4_lineAhead k4 other y1 s2).bind fun r6 => (if r5 = r6 then nm (y1 + (1 : Int32)) fun x1 => some (.inl x1) else some (.inr (.inr (y1, s2)))))))
def f_X8_part (p : Int32) (start : Int32) (q_ : Int32) (other : Int32) (σ : St) : Option (Int32 × St) := (f_X8_isProgram p).bind fun r1 => (if r1 = (0 : Int32) then some ((-1 : Int32), σ) else (f_X8_isProgram q_).bind fun r2 => (if r2 = (0 : Int32) then some ((-1 : Int32), σ) else (f_X8_isMemory start).bind fun r3 => (if r3 = (0 : Int32) then some ((-2 : Int32), σ) else (f_X8_isMemory other).bind fun r4 => (if r4 = (0 : Int32) then some ((-2 : Int32), σ) else chk (inb p 4) (nm (4 + 13 * p.toNatClampNeg) fun k1 => (f_X4_trace k1 start σ).bind fun s1 => chk (inb q_ 4) (nm (4 + 13 * q_.toNatClampNeg) fun k2 => (f_X4_trace k2 other s1).bind fun s2 => (wh FU (b_X8_part_58 p start q_ other s2) (0 : Int32)).bind (Sum.elim (fun _ => some ((-6 : Int32), s2)) (fun z => some z))))))))
abbrev rm_X8_part : Room := { frames := 3, cells := 0, slots := 0, locals := 79 }
set_option maxHeartbeats 4000000 in
set_option maxRecDepth 20000 in
theorem m_X8_part (l : Launch) (D : va_G) (cy : Cy) (q : Nat → Nat) (σ : St) (p : Int32) (start : Int32) (q_ : Int32) (other : Int32)  : ∀ res, f_X8_part p start q_ other σ = some res → MetX (vX D cy q) l yX8_part cX8_part 8 (some .int) rm_X8_part [.ref (q 87), .int p, .int start, .int q_, .int other] σ (some (.int res.1), res.2) := by
  let fin_ : (Int32 × St) → Option Value × St := fun r => (some (.int r.1), r.2)
  have hro : ∀ (z : Int32 × St) (res : Int32 × St), some z = some res → fin_ res = fin_ z := fun z res h => by cases h; rfl
  refine MetX.of1 (fin := fin_) (lv := [(0, .ref (q 87)), (1, .int p), (2, .int start), (3, .int q_), (4, .int other)]) (by decide) (Nat.le_of_ble_eq_true rfl) rfl ?_
  unfold f_X8_part
  refine g_iload_n (pc := 0) 1 dX8_part_0 rfl rfl ?_
  refine gS_i (pc := 1) [.int p] [] (m_X8_isProgram l D cy q σ p) cw_X8_isProgram km_X8_73 ⟨rfl, rfl, by decide, by decide⟩ dX8_part_1 rfl rfl (Nat.le_of_ble_eq_true rfl) (fun r1 => ?_)
  refine g_if_eq (pc := 4) 14 dX8_part_4 (by decide) ?_ ?_
  · refine g_iconst (pc := 14) (-1) dX8_part_14 (by decide) ?_
    exact g_iret (pc := 15) (hro _) rfl dX8_part_15
  · refine g_iload_n (pc := 7) 3 dX8_part_7 rfl rfl ?_
    refine gS_i (pc := 8) [.int q_] [] (m_X8_isProgram l D cy q σ q_) cw_X8_isProgram km_X8_73 ⟨rfl, rfl, by decide, by decide⟩ dX8_part_8 rfl rfl (Nat.le_of_ble_eq_true rfl) (fun r2 => ?_)
    refine g_if_ne (pc := 11) 16 dX8_part_11 (by decide) ?_ ?_
    · refine g_iload_n (pc := 16) 2 dX8_part_16 rfl rfl ?_
      refine gS_i (pc := 17) [.int start] [] (m_X8_isMemory l D cy q σ start) cw_X8_isMemory km_X8_106 ⟨rfl, rfl, by decide, by decide⟩ dX8_part_17 rfl rfl (Nat.le_of_ble_eq_true rfl) (fun r3 => ?_)
      refine g_if_eq (pc := 20) 31 dX8_part_20 (by decide) ?_ ?_
      · refine g_bipush (pc := 31) (-2) dX8_part_31 (by decide) ?_
        exact g_iret (pc := 33) (hro _) rfl dX8_part_33
      · refine g_iload (pc := 23) 4 dX8_part_23 rfl ?_
        refine gS_i (pc := 25) [.int other] [] (m_X8_isMemory l D cy q σ other) cw_X8_isMemory km_X8_106 ⟨rfl, rfl, by decide, by decide⟩ dX8_part_25 rfl rfl (Nat.le_of_ble_eq_true rfl) (fun r4 => ?_)
        refine g_if_ne (pc := 28) 34 dX8_part_28 (by decide) ?_ ?_
        · refine g_aload_n (pc := 34) 0 dX8_part_34 rfl rfl ?_
          refine gf_8_programs (pc := 35) kf_X8_14 dX8_part_35 ?_
          refine g_iload_n (pc := 38) 1 dX8_part_38 rfl rfl ?_
          refine g_aald (pc := 39) (k := 3) (t0 := 3) (C0 := RX4) (fun j => 4 + 13 * j) (Nat.le_of_ble_eq_true rfl) rfl (fun _ => rfl) rfl dX8_part_39 (fun k1 h0 => ?_)
          have hk1 := isP_4 h0
          refine g_iload_n (pc := 40) 2 dX8_part_40 rfl rfl ?_
          refine gV_v (pc := 41) [.int start] [] (m_X4_trace l D cy q σ k1 start hk1) cw_X4_trace km_X8_109 ⟨rfl, rfl, by decide, by decide⟩ (by have := hk1.lt; show k1 < 88; omega) (eX_4 (cy := cy) hk1 (σ.1 k1) (σ.2 k1)) rfl dX8_part_41 rfl rfl (Nat.le_of_ble_eq_true rfl) (fun s1 => ?_)
          refine g_aload_n (pc := 44) 0 dX8_part_44 rfl rfl ?_
          refine gf_8_programs (pc := 45) kf_X8_14 dX8_part_45 ?_
          refine g_iload_n (pc := 48) 3 dX8_part_48 rfl rfl ?_
          refine g_aald (pc := 49) (k := 3) (t0 := 3) (C0 := RX4) (fun j => 4 + 13 * j) (Nat.le_of_ble_eq_true rfl) rfl (fun _ => rfl) rfl dX8_part_49 (fun k2 h0 => ?_)
          have hk2 := isP_4 h0
          refine g_iload (pc := 50) 4 dX8_part_50 rfl ?_
          refine gV_v (pc := 52) [.int other] [] (m_X4_trace l D cy q s1 k2 other hk2) cw_X4_trace km_X8_109 ⟨rfl, rfl, by decide, by decide⟩ (by have := hk2.lt; show k2 < 88; omega) (eX_4 (cy := cy) hk2 (s1.1 k2) (s1.2 k2)) rfl dX8_part_52 rfl rfl (Nat.le_of_ble_eq_true rfl) (fun s2 => ?_)
          refine g_iconst (pc := 55) (0) dX8_part_55 (by decide) ?_
          refine g_istore (pc := 56) (lv' := [(5, .int (0 : Int32)), (0, .ref (q 87)), (1, .int p), (2, .int start), (3, .int q_), (4, .int other)]) dX8_part_56 (Nat.le_of_ble_eq_true rfl) rfl ?_
          refine g_sub [1, 2, 3, 4, 5, 0] rfl ?_
          refine g_whr (pc := 58) (s0 := (0 : Int32)) fin_ (fun (w_ : Int32) => s2) (fun (w_ : Int32) => [(0, .ref (q 87)), (1, .int p), (2, .int start), (3, .int q_), (4, .int other), (5, .int w_)]) (fun (w_ : Unit) => s2) (fun (w_ : Unit) => []) 110 (fun z => z) (fun _ => rfl) hro ?_ ?_
          · rintro _
            try dsimp only [un, Sum.elim_inl]
            refine g_bipush (pc := 110) (-6) dX8_part_110 (by decide) ?_
            exact g_iret (pc := 112) (hro _) rfl dX8_part_112
          · intro K58 hr58 hx58 ih58
            rintro y1
            try dsimp only [b_X8_part_58, un]
            refine g_iload (pc := 58) 5 dX8_part_58 rfl ?_
            refine g_bipush (pc := 60) (24) dX8_part_60 (by decide) ?_
            refine g_icmp_gt (pc := 62) 110 dX8_part_62 (by decide) ?_ ?_
            · exact g_sub [] rfl (hx58 ())
            · refine g_aload_n (pc := 65) 0 dX8_part_65 rfl rfl ?_
              refine gf_8_programs (pc := 66) kf_X8_14 dX8_part_66 ?_
              refine g_iload_n (pc := 69) 1 dX8_part_69 rfl rfl ?_
              refine g_aald (pc := 70) (k := 3) (t0 := 3) (C0 := RX4) (fun j => 4 + 13 * j) (Nat.le_of_ble_eq_true rfl) rfl (fun _ => rfl) rfl dX8_part_70 (fun k3 h0 => ?_)
              have hk3 := isP_4 h0
              refine g_iload_n (pc := 71) 2 dX8_part_71 rfl rfl ?_
              refine g_iload (pc := 72) 5 dX8_part_72 rfl ?_
              refine gV_i (pc := 74) [.int start, .int y1] [] (m_X4_lineAhead l D cy q s2 k3 start y1 hk3) cw_X4_lineAhead km_X8_176 ⟨rfl, rfl, by decide, by decide⟩ (by have := hk3.lt; show k3 < 88; omega) (eX_4 (cy := cy) hk3 (s2.1 k3) (s2.2 k3)) rfl dX8_part_74 rfl rfl (Nat.le_of_ble_eq_true rfl) (fun r5 => ?_)
              refine g_istore (pc := 77) (lv' := [(6, .int r5), (0, .ref (q 87)), (1, .int p), (2, .int start), (3, .int q_), (4, .int other), (5, .int y1)]) dX8_part_77 (Nat.le_of_ble_eq_true rfl) rfl ?_
              refine g_aload_n (pc := 79) 1 dX8_part_79 rfl rfl ?_
              refine gf_8_programs (pc := 80) kf_X8_14 dX8_part_80 ?_
              refine g_iload_n (pc := 83) 4 dX8_part_83 rfl rfl ?_
              refine g_aald (pc := 84) (k := 3) (t0 := 3) (C0 := RX4) (fun j => 4 + 13 * j) (Nat.le_of_ble_eq_true rfl) rfl (fun _ => rfl) rfl dX8_part_84 (fun k4 h0 => ?_)
              have hk4 := isP_4 h0
              refine g_iload (pc := 85) 5 dX8_part_85 rfl ?_
              refine g_iload (pc := 87) 6 dX8_part_87 rfl ?_
              refine gV_i (pc := 89) [.int other, .int y1] [] (m_X4_lineAhead l D cy q s2 k4 other y1 hk4) cw_X4_lineAhead km_X8_176 ⟨rfl, rfl, by decide, by decide⟩ (by have := hk4.lt; show k4 < 88; omega) (eX_4 (cy := cy) hk4 (s2.1 k4) (s2.2 k4)) rfl dX8_part_89 rfl rfl (Nat.le_of_ble_eq_true rfl) (fun r6 => ?_)
              refine g_istore (pc := 92) (lv' := [(7, .int r6), (6, .int r5), (0, .ref (q 87)), (1, .int p), (2, .int start), (3, .int q_), (4, .int other), (5, .int y1)]) dX8_part_92 (Nat.le_of_ble_eq_true rfl) rfl ?_
              refine g_iload (pc := 94) 1 dX8_part_94 rfl ?_
              refine g_iload (pc := 96) 0 dX8_part_96 rfl ?_
              refine g_icmp_eq (pc := 98) 104 dX8_part_98 (by decide) ?_ ?_
              · refine g_iinc (pc := 104) (j := 7) (1) (lf := fun x1 => [(5, .int x1), (7, .int r6), (6, .int r5), (0, .ref (q 87)), (1, .int p), (2, .int start), (3, .int q_), (4, .int other)]) dX8_part_104 rfl (by decide) (Nat.le_of_ble_eq_true rfl) (fun _ => rfl) (fun x1 => ?_)
                refine g_goto (pc := 107) 58 dX8_part_107 (by decide) ?_
                exact g_sub [3, 4, 5, 6, 7, 0] rfl (ih58 x1)
              · refine g_iload (pc := 101) 7 dX8_part_101 rfl ?_
                exact g_iret (pc := 103) (hr58 _) rfl dX8_part_103
        · refine g_bipush (pc := 31) (-2) dX8_part_31 (by decide) ?_
          exact g_iret (pc := 33) (hro _) rfl dX8_part_33
    · refine g_iconst (pc := 14) (-1) dX8_part_14 (by decide) ?_
      exact g_iret (pc := 15) (hro _) rfl dX8_part_15
def f_X8_wait (one : Int32) (two : Int32) (how : Int32) (σ : St) : Option (Int32 × St) := (f_X8_isWithin one (11 : Int32)).bind fun r1 => (if r1 = (0 : Int32) then some ((-2 : Int32), σ) else (f_X8_isWithin two (11 : Int32)).bind fun r2 => (if r2 = (0 : Int32) then some ((-2 : Int32), σ) else (f_X8_isWithin how (2 : Int32)).bind fun r3 => (if r3 = (0 : Int32) then some ((-2 : Int32), σ) else nm ((one * (13 : Int32)) + two) fun x1 => chk (inb x1 169) (nm (σ.1 77 x1.toNatClampNeg) fun x2 => chk (inb x1 169) (nm (stI σ 77 x1.toNatClampNeg how) fun s1 => (f_X8_forget s1).bind fun s2 => some (x2, s2))))))
abbrev rm_X8_wait : Room := { frames := 1, cells := 0, slots := 0, locals := 21 }
set_option maxHeartbeats 4000000 in
set_option maxRecDepth 20000 in
theorem m_X8_wait (l : Launch) (D : va_G) (cy : Cy) (q : Nat → Nat) (σ : St) (one : Int32) (two : Int32) (how : Int32)  : ∀ res, f_X8_wait one two how σ = some res → MetX (vX D cy q) l yX8_wait cX8_wait 6 (some .int) rm_X8_wait [.ref (q 87), .int one, .int two, .int how] σ (some (.int res.1), res.2) := by
  let fin_ : (Int32 × St) → Option Value × St := fun r => (some (.int r.1), r.2)
  have hro : ∀ (z : Int32 × St) (res : Int32 × St), some z = some res → fin_ res = fin_ z := fun z res h => by cases h; rfl
  refine MetX.of1 (fin := fin_) (lv := [(0, .ref (q 87)), (1, .int one), (2, .int two), (3, .int how)]) (by decide) (Nat.le_of_ble_eq_true rfl) rfl ?_
  unfold f_X8_wait
  refine g_iload_n (pc := 0) 1 dX8_wait_0 rfl rfl ?_
  refine g_bipush (pc := 1) (11) dX8_wait_1 (by decide) ?_
  refine gS_i (pc := 3) [.int one, .int (11 : Int32)] [] (m_X8_isWithin l D cy q σ one (11 : Int32)) cw_X8_isWithin km_X8_99 ⟨rfl, rfl, by decide, by decide⟩ dX8_wait_3 rfl rfl (Nat.le_of_ble_eq_true rfl) (fun r1 => ?_)
  refine g_if_eq (pc := 6) 26 dX8_wait_6 (by decide) ?_ ?_
  · refine g_bipush (pc := 26) (-2) dX8_wait_26 (by decide) ?_
    exact g_iret (pc := 28) (hro _) rfl dX8_wait_28
  · refine g_iload_n (pc := 9) 2 dX8_wait_9 rfl rfl ?_
    refine g_bipush (pc := 10) (11) dX8_wait_10 (by decide) ?_
    refine gS_i (pc := 12) [.int two, .int (11 : Int32)] [] (m_X8_isWithin l D cy q σ two (11 : Int32)) cw_X8_isWithin km_X8_99 ⟨rfl, rfl, by decide, by decide⟩ dX8_wait_12 rfl rfl (Nat.le_of_ble_eq_true rfl) (fun r2 => ?_)
    refine g_if_eq (pc := 15) 26 dX8_wait_15 (by decide) ?_ ?_
    · refine g_bipush (pc := 26) (-2) dX8_wait_26 (by decide) ?_
      exact g_iret (pc := 28) (hro _) rfl dX8_wait_28
    · refine g_iload_n (pc := 18) 3 dX8_wait_18 rfl rfl ?_
      refine g_iconst (pc := 19) (2) dX8_wait_19 (by decide) ?_
      refine gS_i (pc := 20) [.int how, .int (2 : Int32)] [] (m_X8_isWithin l D cy q σ how (2 : Int32)) cw_X8_isWithin km_X8_99 ⟨rfl, rfl, by decide, by decide⟩ dX8_wait_20 rfl rfl (Nat.le_of_ble_eq_true rfl) (fun r3 => ?_)
      refine g_if_ne (pc := 23) 29 dX8_wait_23 (by decide) ?_ ?_
      · refine g_iload_n (pc := 29) 1 dX8_wait_29 rfl rfl ?_
        refine g_bipush (pc := 30) (13) dX8_wait_30 (by decide) ?_
        refine g_imul (pc := 32) dX8_wait_32 ?_
        refine g_iload_n (pc := 33) 2 dX8_wait_33 rfl rfl ?_
        refine g_iadd (pc := 34) dX8_wait_34 ?_
        refine g_nmi (fun x1 => ?_)
        refine g_istore (pc := 35) (lv' := [(4, .int x1), (0, .ref (q 87)), (1, .int one), (2, .int two), (3, .int how)]) dX8_wait_35 (Nat.le_of_ble_eq_true rfl) rfl ?_
        refine g_aload_n (pc := 37) 1 dX8_wait_37 rfl rfl ?_
        refine gf_8_walker (pc := 38) kf_X8_62 dX8_wait_38 ?_
        refine gf_7_waits (pc := 41) kf_X8_179 dX8_wait_41 ?_
        refine g_iload (pc := 44) 0 dX8_wait_44 rfl ?_
        refine a_ild (pc := 46) aX_7_waits dX8_wait_46 ?_
        refine g_nmi (fun x2 => ?_)
        refine g_istore (pc := 47) (lv' := [(5, .int x2), (4, .int x1), (0, .ref (q 87)), (1, .int one), (2, .int two), (3, .int how)]) dX8_wait_47 (Nat.le_of_ble_eq_true rfl) rfl ?_
        refine g_aload_n (pc := 49) 2 dX8_wait_49 rfl rfl ?_
        refine gf_8_walker (pc := 50) kf_X8_62 dX8_wait_50 ?_
        refine gf_7_waits (pc := 53) kf_X8_179 dX8_wait_53 ?_
        refine g_iload (pc := 56) 1 dX8_wait_56 rfl ?_
        refine g_iload_n (pc := 58) 5 dX8_wait_58 rfl rfl ?_
        refine a_ist (pc := 59) aX_7_waits dX8_wait_59 (fun s1 => ?_)
        refine g_aload_n (pc := 60) 2 dX8_wait_60 rfl rfl ?_
        refine gV_v (pc := 61) [] [] (m_X8_forget l D cy q s1) cw_X8_forget km_X8_88 ⟨rfl, rfl, by decide, by decide⟩ (Nat.le_of_ble_eq_true rfl) (eX_8 (cy := cy) (s1.1 87) (s1.2 87)) rfl dX8_wait_61 rfl rfl (Nat.le_of_ble_eq_true rfl) (fun s2 => ?_)
        refine g_iload (pc := 64) 0 dX8_wait_64 rfl ?_
        exact g_iret (pc := 66) (hro _) rfl dX8_wait_66
      · refine g_bipush (pc := 26) (-2) dX8_wait_26 (by decide) ?_
        exact g_iret (pc := 28) (hro _) rfl dX8_wait_28
def f_X8_makeWalk (saying : Int32) (p : Int32) (q_ : Int32) (σ : St) : Option (St) := (f_X8_keyOf saying p q_).bind fun r1 => (if (σ.1 76 1) = r1 then some σ else chk (inb saying 6) (nm (57 + 2 * saying.toNatClampNeg) fun k1 => chk (inb p 4) (nm (4 + 13 * p.toNatClampNeg) fun k2 => chk (inb q_ 4) (nm (4 + 13 * q_.toNatClampNeg) fun k3 => (f_X7_walkAll k1 k2 k3 σ).bind fun s1 => nm (stI s1 76 1 r1) fun s2 => some s2))))
abbrev rm_X8_makeWalk : Room := { frames := 5, cells := 0, slots := 0, locals := 126 }
set_option maxHeartbeats 4000000 in
set_option maxRecDepth 20000 in
theorem m_X8_makeWalk (l : Launch) (D : va_G) (cy : Cy) (q : Nat → Nat) (σ : St) (saying : Int32) (p : Int32) (q_ : Int32)  : ∀ res, f_X8_makeWalk saying p q_ σ = some res → MetX (vX D cy q) l yX8_makeWalk cX8_makeWalk 5 none rm_X8_makeWalk [.ref (q 87), .int saying, .int p, .int q_] σ (none, res) := by
  let fin_ : St → Option Value × St := fun r => (none, r)
  have hro : ∀ (z : St) (res : St), some z = some res → fin_ res = fin_ z := fun z res h => by cases h; rfl
  refine MetX.of1 (fin := fin_) (lv := [(0, .ref (q 87)), (1, .int saying), (2, .int p), (3, .int q_)]) (by decide) (Nat.le_of_ble_eq_true rfl) rfl ?_
  unfold f_X8_makeWalk
  refine g_iload_n (pc := 0) 1 dX8_makeWalk_0 rfl rfl ?_
  refine g_iload_n (pc := 1) 2 dX8_makeWalk_1 rfl rfl ?_
  refine g_iload_n (pc := 2) 3 dX8_makeWalk_2 rfl rfl ?_
  refine gS_i (pc := 3) [.int saying, .int p, .int q_] [] (m_X8_keyOf l D cy q σ saying p q_) cw_X8_keyOf km_X8_153 ⟨rfl, rfl, by decide, by decide⟩ dX8_makeWalk_3 rfl rfl (Nat.le_of_ble_eq_true rfl) (fun r1 => ?_)
  refine g_istore (pc := 6) (lv' := [(4, .int r1), (0, .ref (q 87)), (1, .int saying), (2, .int p), (3, .int q_)]) dX8_makeWalk_6 (Nat.le_of_ble_eq_true rfl) rfl ?_
  refine g_aload_n (pc := 8) 1 dX8_makeWalk_8 rfl rfl ?_
  refine gf_8_walker (pc := 9) kf_X8_62 dX8_makeWalk_9 ?_
  refine gf_7_key (pc := 12) kf_X8_269 dX8_makeWalk_12 ?_
  refine g_iload (pc := 15) 0 dX8_makeWalk_15 rfl ?_
  refine g_icmp_eq (pc := 17) 54 dX8_makeWalk_17 (by decide) ?_ ?_
  · exact g_vret (pc := 54) (hro _) rfl dX8_makeWalk_54
  · refine g_aload_n (pc := 20) 1 dX8_makeWalk_20 rfl rfl ?_
    refine gf_8_walker (pc := 21) kf_X8_62 dX8_makeWalk_21 ?_
    refine g_aload_n (pc := 24) 1 dX8_makeWalk_24 rfl rfl ?_
    refine gf_8_sayings (pc := 25) kf_X8_23 dX8_makeWalk_25 ?_
    refine g_iload_n (pc := 28) 2 dX8_makeWalk_28 rfl rfl ?_
    refine g_aald (pc := 29) (k := 56) (t0 := 4) (C0 := RX5) (fun j => 57 + 2 * j) (Nat.le_of_ble_eq_true rfl) rfl (fun _ => rfl) rfl dX8_makeWalk_29 (fun k1 h0 => ?_)
    have hk1 := isS_6 h0
    refine g_aload_n (pc := 30) 1 dX8_makeWalk_30 rfl rfl ?_
    refine gf_8_programs (pc := 31) kf_X8_14 dX8_makeWalk_31 ?_
    refine g_iload_n (pc := 34) 3 dX8_makeWalk_34 rfl rfl ?_
    refine g_aald (pc := 35) (k := 3) (t0 := 3) (C0 := RX4) (fun j => 4 + 13 * j) (Nat.le_of_ble_eq_true rfl) rfl (fun _ => rfl) rfl dX8_makeWalk_35 (fun k2 h0 => ?_)
    have hk2 := isP_4 h0
    refine g_aload_n (pc := 36) 1 dX8_makeWalk_36 rfl rfl ?_
    refine gf_8_programs (pc := 37) kf_X8_14 dX8_makeWalk_37 ?_
    refine g_iload_n (pc := 40) 4 dX8_makeWalk_40 rfl rfl ?_
    refine g_aald (pc := 41) (k := 3) (t0 := 3) (C0 := RX4) (fun j => 4 + 13 * j) (Nat.le_of_ble_eq_true rfl) rfl (fun _ => rfl) rfl dX8_makeWalk_41 (fun k3 h0 => ?_)
    have hk3 := isP_4 h0
    refine gV_v (pc := 42) [.ref (q k1), .ref (q k2), .ref (q k3)] [] (m_X7_walkAll l D cy q σ k1 k2 k3 hk1 hk2 hk3) cw_X7_walkAll km_X8_270 ⟨rfl, rfl, by decide, by decide⟩ (Nat.le_of_ble_eq_true rfl) (eX_7 (cy := cy) (σ.1 76) (σ.2 76)) rfl dX8_makeWalk_42 rfl rfl (Nat.le_of_ble_eq_true rfl) (fun s1 => ?_)
    refine g_aload_n (pc := 45) 1 dX8_makeWalk_45 rfl rfl ?_
    refine gf_8_walker (pc := 46) kf_X8_62 dX8_makeWalk_46 ?_
    refine g_iload (pc := 49) 0 dX8_makeWalk_49 rfl ?_
    refine gp_7_key (pc := 51) kf_X8_269 dX8_makeWalk_51 (fun s2 => ?_)
    exact g_vret (pc := 54) (hro _) rfl dX8_makeWalk_54
def f_X8_walk (saying : Int32) (p : Int32) (q_ : Int32) (what : Int32) (σ : St) : Option (Int32 × St) := (f_X8_isSaying saying σ).bind fun r1 => (if r1 = (0 : Int32) then some ((-1 : Int32), σ) else (f_X8_isProgram p).bind fun r2 => (if r2 = (0 : Int32) then some ((-1 : Int32), σ) else (f_X8_isProgram q_).bind fun r3 => (if r3 = (0 : Int32) then some ((-1 : Int32), σ) else (f_X8_isWithin what (2 : Int32)).bind fun r4 => (if r4 = (0 : Int32) then some ((-2 : Int32), σ) else (f_X8_makeWalk saying p q_ σ).bind fun s1 => (if what = (0 : Int32) then (f_X7_countPlaces s1).bind fun r5 => some (r5, s1) else (if what = (1 : Int32) then (f_X7_countUnlike s1).bind fun r6 => some (r6, s1) else some ((s1.1 76 6), s1)))))))
abbrev rm_X8_walk : Room := { frames := 6, cells := 0, slots := 0, locals := 150 }
set_option maxHeartbeats 4000000 in
set_option maxRecDepth 20000 in
theorem m_X8_walk (l : Launch) (D : va_G) (cy : Cy) (q : Nat → Nat) (σ : St) (saying : Int32) (p : Int32) (q_ : Int32) (what : Int32)  : ∀ res, f_X8_walk saying p q_ what σ = some res → MetX (vX D cy q) l yX8_walk cX8_walk 5 (some .int) rm_X8_walk [.ref (q 87), .int saying, .int p, .int q_, .int what] σ (some (.int res.1), res.2) := by
  let fin_ : (Int32 × St) → Option Value × St := fun r => (some (.int r.1), r.2)
  have hro : ∀ (z : Int32 × St) (res : Int32 × St), some z = some res → fin_ res = fin_ z := fun z res h => by cases h; rfl
  refine MetX.of1 (fin := fin_) (lv := [(0, .ref (q 87)), (1, .int saying), (2, .int p), (3, .int q_), (4, .int what)]) (by decide) (Nat.le_of_ble_eq_true rfl) rfl ?_
  unfold f_X8_walk
  refine g_aload_n (pc := 0) 0 dX8_walk_0 rfl rfl ?_
  refine g_iload_n (pc := 1) 1 dX8_walk_1 rfl rfl ?_
  refine gV_i (pc := 2) [.int saying] [] (m_X8_isSaying l D cy q σ saying) cw_X8_isSaying km_X8_140 ⟨rfl, rfl, by decide, by decide⟩ (Nat.le_of_ble_eq_true rfl) (eX_8 (cy := cy) (σ.1 87) (σ.2 87)) rfl dX8_walk_2 rfl rfl (Nat.le_of_ble_eq_true rfl) (fun r1 => ?_)
  refine g_if_eq (pc := 5) 22 dX8_walk_5 (by decide) ?_ ?_
  · refine g_iconst (pc := 22) (-1) dX8_walk_22 (by decide) ?_
    exact g_iret (pc := 23) (hro _) rfl dX8_walk_23
  · refine g_iload_n (pc := 8) 2 dX8_walk_8 rfl rfl ?_
    refine gS_i (pc := 9) [.int p] [] (m_X8_isProgram l D cy q σ p) cw_X8_isProgram km_X8_73 ⟨rfl, rfl, by decide, by decide⟩ dX8_walk_9 rfl rfl (Nat.le_of_ble_eq_true rfl) (fun r2 => ?_)
    refine g_if_eq (pc := 12) 22 dX8_walk_12 (by decide) ?_ ?_
    · refine g_iconst (pc := 22) (-1) dX8_walk_22 (by decide) ?_
      exact g_iret (pc := 23) (hro _) rfl dX8_walk_23
    · refine g_iload_n (pc := 15) 3 dX8_walk_15 rfl rfl ?_
      refine gS_i (pc := 16) [.int q_] [] (m_X8_isProgram l D cy q σ q_) cw_X8_isProgram km_X8_73 ⟨rfl, rfl, by decide, by decide⟩ dX8_walk_16 rfl rfl (Nat.le_of_ble_eq_true rfl) (fun r3 => ?_)
      refine g_if_ne (pc := 19) 24 dX8_walk_19 (by decide) ?_ ?_
      · refine g_iload (pc := 24) 4 dX8_walk_24 rfl ?_
        refine g_iconst (pc := 26) (2) dX8_walk_26 (by decide) ?_
        refine gS_i (pc := 27) [.int what, .int (2 : Int32)] [] (m_X8_isWithin l D cy q σ what (2 : Int32)) cw_X8_isWithin km_X8_99 ⟨rfl, rfl, by decide, by decide⟩ dX8_walk_27 rfl rfl (Nat.le_of_ble_eq_true rfl) (fun r4 => ?_)
        refine g_if_ne (pc := 30) 36 dX8_walk_30 (by decide) ?_ ?_
        · refine g_aload_n (pc := 36) 0 dX8_walk_36 rfl rfl ?_
          refine g_iload_n (pc := 37) 1 dX8_walk_37 rfl rfl ?_
          refine g_iload_n (pc := 38) 2 dX8_walk_38 rfl rfl ?_
          refine g_iload_n (pc := 39) 3 dX8_walk_39 rfl rfl ?_
          refine gV_v (pc := 40) [.int saying, .int p, .int q_] [] (m_X8_makeWalk l D cy q σ saying p q_) cw_X8_makeWalk km_X8_182 ⟨rfl, rfl, by decide, by decide⟩ (Nat.le_of_ble_eq_true rfl) (eX_8 (cy := cy) (σ.1 87) (σ.2 87)) rfl dX8_walk_40 rfl rfl (Nat.le_of_ble_eq_true rfl) (fun s1 => ?_)
          refine g_iload (pc := 43) 4 dX8_walk_43 rfl ?_
          refine g_if (fun c45_0 => ?_) (fun n45_0 => ?_)
          · refine g_lku (pc := 45) (off := 27) 72 dX8_walk_45 (by decide) ((congrArg (Op.lookupswitch.offset _ _) (i32_eq (0) rfl c45_0)).trans rfl) (by decide) ?_
            refine g_aload_n (pc := 72) 0 dX8_walk_72 rfl rfl ?_
            refine gf_8_walker (pc := 73) kf_X8_62 dX8_walk_73 ?_
            refine gV_i (pc := 76) [] [] (m_X7_countPlaces l D cy q s1) cw_X7_countPlaces km_X8_186 ⟨rfl, rfl, by decide, by decide⟩ (Nat.le_of_ble_eq_true rfl) (eX_7 (cy := cy) (s1.1 76) (s1.2 76)) rfl dX8_walk_76 rfl rfl (Nat.le_of_ble_eq_true rfl) (fun r5 => ?_)
            exact g_iret (pc := 79) (hro _) rfl dX8_walk_79
          · refine g_if (fun c45_1 => ?_) (fun n45_1 => ?_)
            · refine g_lku (pc := 45) (off := 35) 80 dX8_walk_45 (by decide) ((congrArg (Op.lookupswitch.offset _ _) (i32_eq (1) rfl c45_1)).trans rfl) (by decide) ?_
              refine g_aload_n (pc := 80) 0 dX8_walk_80 rfl rfl ?_
              refine gf_8_walker (pc := 81) kf_X8_62 dX8_walk_81 ?_
              refine gV_i (pc := 84) [] [] (m_X7_countUnlike l D cy q s1) cw_X7_countUnlike km_X8_189 ⟨rfl, rfl, by decide, by decide⟩ (Nat.le_of_ble_eq_true rfl) (eX_7 (cy := cy) (s1.1 76) (s1.2 76)) rfl dX8_walk_84 rfl rfl (Nat.le_of_ble_eq_true rfl) (fun r6 => ?_)
              exact g_iret (pc := 87) (hro _) rfl dX8_walk_87
            · refine g_lku (pc := 45) (off := 43) 88 dX8_walk_45 (by decide) (by have e0 := i32_ne (0) rfl n45_0; have e1 := i32_ne (1) rfl n45_1; simp [Op.lookupswitch.offset, e0, Ne.symm e0, e1, Ne.symm e1]) (by decide) ?_
              refine g_aload_n (pc := 88) 0 dX8_walk_88 rfl rfl ?_
              refine gf_8_walker (pc := 89) kf_X8_62 dX8_walk_89 ?_
              refine gf_7_mostMoves (pc := 92) kf_X8_192 dX8_walk_92 ?_
              exact g_iret (pc := 95) (hro _) rfl dX8_walk_95
        · refine g_bipush (pc := 33) (-2) dX8_walk_33 (by decide) ?_
          exact g_iret (pc := 35) (hro _) rfl dX8_walk_35
      · refine g_iconst (pc := 22) (-1) dX8_walk_22 (by decide) ?_
        exact g_iret (pc := 23) (hro _) rfl dX8_walk_23
def f_X8_shape (saying : Int32) (p : Int32) (q_ : Int32) (one : Int32) (two : Int32) (σ : St) : Option (Int32 × St) := (f_X8_isSaying saying σ).bind fun r1 => (if r1 = (0 : Int32) then some ((-1 : Int32), σ) else (f_X8_isProgram p).bind fun r2 => (if r2 = (0 : Int32) then some ((-1 : Int32), σ) else (f_X8_isProgram q_).bind fun r3 => (if r3 = (0 : Int32) then some ((-1 : Int32), σ) else (f_X8_isWithin one (12 : Int32)).bind fun r4 => (if r4 = (0 : Int32) then some ((-2 : Int32), σ) else (f_X8_isWithin two (12 : Int32)).bind fun r5 => (if r5 = (0 : Int32) then some ((-2 : Int32), σ) else (f_X8_makeWalk saying p q_ σ).bind fun s1 => chk (inb ((one * (13 : Int32)) + two) 169) (some ((s1.1 79 ((one * (13 : Int32)) + two).toNatClampNeg), s1)))))))
abbrev rm_X8_shape : Room := { frames := 6, cells := 0, slots := 0, locals := 150 }
set_option maxHeartbeats 4000000 in
set_option maxRecDepth 20000 in
theorem m_X8_shape (l : Launch) (D : va_G) (cy : Cy) (q : Nat → Nat) (σ : St) (saying : Int32) (p : Int32) (q_ : Int32) (one : Int32) (two : Int32)  : ∀ res, f_X8_shape saying p q_ one two σ = some res → MetX (vX D cy q) l yX8_shape cX8_shape 6 (some .int) rm_X8_shape [.ref (q 87), .int saying, .int p, .int q_, .int one, .int two] σ (some (.int res.1), res.2) := by
  let fin_ : (Int32 × St) → Option Value × St := fun r => (some (.int r.1), r.2)
  have hro : ∀ (z : Int32 × St) (res : Int32 × St), some z = some res → fin_ res = fin_ z := fun z res h => by cases h; rfl
  refine MetX.of1 (fin := fin_) (lv := [(0, .ref (q 87)), (1, .int saying), (2, .int p), (3, .int q_), (4, .int one), (5, .int two)]) (by decide) (Nat.le_of_ble_eq_true rfl) rfl ?_
  unfold f_X8_shape
  refine g_aload_n (pc := 0) 0 dX8_shape_0 rfl rfl ?_
  refine g_iload_n (pc := 1) 1 dX8_shape_1 rfl rfl ?_
  refine gV_i (pc := 2) [.int saying] [] (m_X8_isSaying l D cy q σ saying) cw_X8_isSaying km_X8_140 ⟨rfl, rfl, by decide, by decide⟩ (Nat.le_of_ble_eq_true rfl) (eX_8 (cy := cy) (σ.1 87) (σ.2 87)) rfl dX8_shape_2 rfl rfl (Nat.le_of_ble_eq_true rfl) (fun r1 => ?_)
  refine g_if_eq (pc := 5) 22 dX8_shape_5 (by decide) ?_ ?_
  · refine g_iconst (pc := 22) (-1) dX8_shape_22 (by decide) ?_
    exact g_iret (pc := 23) (hro _) rfl dX8_shape_23
  · refine g_iload_n (pc := 8) 2 dX8_shape_8 rfl rfl ?_
    refine gS_i (pc := 9) [.int p] [] (m_X8_isProgram l D cy q σ p) cw_X8_isProgram km_X8_73 ⟨rfl, rfl, by decide, by decide⟩ dX8_shape_9 rfl rfl (Nat.le_of_ble_eq_true rfl) (fun r2 => ?_)
    refine g_if_eq (pc := 12) 22 dX8_shape_12 (by decide) ?_ ?_
    · refine g_iconst (pc := 22) (-1) dX8_shape_22 (by decide) ?_
      exact g_iret (pc := 23) (hro _) rfl dX8_shape_23
    · refine g_iload_n (pc := 15) 3 dX8_shape_15 rfl rfl ?_
      refine gS_i (pc := 16) [.int q_] [] (m_X8_isProgram l D cy q σ q_) cw_X8_isProgram km_X8_73 ⟨rfl, rfl, by decide, by decide⟩ dX8_shape_16 rfl rfl (Nat.le_of_ble_eq_true rfl) (fun r3 => ?_)
      refine g_if_ne (pc := 19) 24 dX8_shape_19 (by decide) ?_ ?_
      · refine g_iload (pc := 24) 4 dX8_shape_24 rfl ?_
        refine g_bipush (pc := 26) (12) dX8_shape_26 (by decide) ?_
        refine gS_i (pc := 28) [.int one, .int (12 : Int32)] [] (m_X8_isWithin l D cy q σ one (12 : Int32)) cw_X8_isWithin km_X8_99 ⟨rfl, rfl, by decide, by decide⟩ dX8_shape_28 rfl rfl (Nat.le_of_ble_eq_true rfl) (fun r4 => ?_)
        refine g_if_eq (pc := 31) 44 dX8_shape_31 (by decide) ?_ ?_
        · refine g_bipush (pc := 44) (-2) dX8_shape_44 (by decide) ?_
          exact g_iret (pc := 46) (hro _) rfl dX8_shape_46
        · refine g_iload (pc := 34) 5 dX8_shape_34 rfl ?_
          refine g_bipush (pc := 36) (12) dX8_shape_36 (by decide) ?_
          refine gS_i (pc := 38) [.int two, .int (12 : Int32)] [] (m_X8_isWithin l D cy q σ two (12 : Int32)) cw_X8_isWithin km_X8_99 ⟨rfl, rfl, by decide, by decide⟩ dX8_shape_38 rfl rfl (Nat.le_of_ble_eq_true rfl) (fun r5 => ?_)
          refine g_if_ne (pc := 41) 47 dX8_shape_41 (by decide) ?_ ?_
          · refine g_aload_n (pc := 47) 0 dX8_shape_47 rfl rfl ?_
            refine g_iload_n (pc := 48) 1 dX8_shape_48 rfl rfl ?_
            refine g_iload_n (pc := 49) 2 dX8_shape_49 rfl rfl ?_
            refine g_iload_n (pc := 50) 3 dX8_shape_50 rfl rfl ?_
            refine gV_v (pc := 51) [.int saying, .int p, .int q_] [] (m_X8_makeWalk l D cy q σ saying p q_) cw_X8_makeWalk km_X8_182 ⟨rfl, rfl, by decide, by decide⟩ (Nat.le_of_ble_eq_true rfl) (eX_8 (cy := cy) (σ.1 87) (σ.2 87)) rfl dX8_shape_51 rfl rfl (Nat.le_of_ble_eq_true rfl) (fun s1 => ?_)
            refine g_aload_n (pc := 54) 0 dX8_shape_54 rfl rfl ?_
            refine gf_8_walker (pc := 55) kf_X8_62 dX8_shape_55 ?_
            refine gf_7_shapes (pc := 58) kf_X8_195 dX8_shape_58 ?_
            refine g_iload (pc := 61) 4 dX8_shape_61 rfl ?_
            refine g_bipush (pc := 63) (13) dX8_shape_63 (by decide) ?_
            refine g_imul (pc := 65) dX8_shape_65 ?_
            refine g_iload (pc := 66) 5 dX8_shape_66 rfl ?_
            refine g_iadd (pc := 68) dX8_shape_68 ?_
            refine a_ild (pc := 69) aX_7_shapes dX8_shape_69 ?_
            exact g_iret (pc := 70) (hro _) rfl dX8_shape_70
          · refine g_bipush (pc := 44) (-2) dX8_shape_44 (by decide) ?_
            exact g_iret (pc := 46) (hro _) rfl dX8_shape_46
      · refine g_iconst (pc := 22) (-1) dX8_shape_22 (by decide) ?_
        exact g_iret (pc := 23) (hro _) rfl dX8_shape_23
def f_X8_tell (one : Int32) (two : Int32) (bits : Int32) (σ : St) : Option (Int32 × St) := (f_X8_isWithin one (12 : Int32)).bind fun r1 => (if r1 = (0 : Int32) then some ((-2 : Int32), σ) else (f_X8_isWithin two (12 : Int32)).bind fun r2 => (if r2 = (0 : Int32) then some ((-2 : Int32), σ) else (f_X8_isWithin bits (4095 : Int32)).bind fun r3 => (if r3 = (0 : Int32) then some ((-2 : Int32), σ) else nm ((one * (13 : Int32)) + two) fun x1 => chk (inb x1 169) (nm (σ.1 78 x1.toNatClampNeg) fun x2 => chk (inb x1 169) (nm (stI σ 78 x1.toNatClampNeg bits) fun s1 => some (x2, s1))))))
abbrev rm_X8_tell : Room := { frames := 1, cells := 0, slots := 0, locals := 21 }
set_option maxHeartbeats 4000000 in
set_option maxRecDepth 20000 in
theorem m_X8_tell (l : Launch) (D : va_G) (cy : Cy) (q : Nat → Nat) (σ : St) (one : Int32) (two : Int32) (bits : Int32)  : ∀ res, f_X8_tell one two bits σ = some res → MetX (vX D cy q) l yX8_tell cX8_tell 6 (some .int) rm_X8_tell [.ref (q 87), .int one, .int two, .int bits] σ (some (.int res.1), res.2) := by
  let fin_ : (Int32 × St) → Option Value × St := fun r => (some (.int r.1), r.2)
  have hro : ∀ (z : Int32 × St) (res : Int32 × St), some z = some res → fin_ res = fin_ z := fun z res h => by cases h; rfl
  refine MetX.of1 (fin := fin_) (lv := [(0, .ref (q 87)), (1, .int one), (2, .int two), (3, .int bits)]) (by decide) (Nat.le_of_ble_eq_true rfl) rfl ?_
  unfold f_X8_tell
  refine g_iload_n (pc := 0) 1 dX8_tell_0 rfl rfl ?_
  refine g_bipush (pc := 1) (12) dX8_tell_1 (by decide) ?_
  refine gS_i (pc := 3) [.int one, .int (12 : Int32)] [] (m_X8_isWithin l D cy q σ one (12 : Int32)) cw_X8_isWithin km_X8_99 ⟨rfl, rfl, by decide, by decide⟩ dX8_tell_3 rfl rfl (Nat.le_of_ble_eq_true rfl) (fun r1 => ?_)
  refine g_if_eq (pc := 6) 28 dX8_tell_6 (by decide) ?_ ?_
  · refine g_bipush (pc := 28) (-2) dX8_tell_28 (by decide) ?_
    exact g_iret (pc := 30) (hro _) rfl dX8_tell_30
  · refine g_iload_n (pc := 9) 2 dX8_tell_9 rfl rfl ?_
    refine g_bipush (pc := 10) (12) dX8_tell_10 (by decide) ?_
    refine gS_i (pc := 12) [.int two, .int (12 : Int32)] [] (m_X8_isWithin l D cy q σ two (12 : Int32)) cw_X8_isWithin km_X8_99 ⟨rfl, rfl, by decide, by decide⟩ dX8_tell_12 rfl rfl (Nat.le_of_ble_eq_true rfl) (fun r2 => ?_)
    refine g_if_eq (pc := 15) 28 dX8_tell_15 (by decide) ?_ ?_
    · refine g_bipush (pc := 28) (-2) dX8_tell_28 (by decide) ?_
      exact g_iret (pc := 30) (hro _) rfl dX8_tell_30
    · refine g_iload_n (pc := 18) 3 dX8_tell_18 rfl rfl ?_
      refine g_sipush (pc := 19) (4095) dX8_tell_19 (by decide) ?_
      refine gS_i (pc := 22) [.int bits, .int (4095 : Int32)] [] (m_X8_isWithin l D cy q σ bits (4095 : Int32)) cw_X8_isWithin km_X8_99 ⟨rfl, rfl, by decide, by decide⟩ dX8_tell_22 rfl rfl (Nat.le_of_ble_eq_true rfl) (fun r3 => ?_)
      refine g_if_ne (pc := 25) 31 dX8_tell_25 (by decide) ?_ ?_
      · refine g_iload_n (pc := 31) 1 dX8_tell_31 rfl rfl ?_
        refine g_bipush (pc := 32) (13) dX8_tell_32 (by decide) ?_
        refine g_imul (pc := 34) dX8_tell_34 ?_
        refine g_iload_n (pc := 35) 2 dX8_tell_35 rfl rfl ?_
        refine g_iadd (pc := 36) dX8_tell_36 ?_
        refine g_nmi (fun x1 => ?_)
        refine g_istore (pc := 37) (lv' := [(4, .int x1), (0, .ref (q 87)), (1, .int one), (2, .int two), (3, .int bits)]) dX8_tell_37 (Nat.le_of_ble_eq_true rfl) rfl ?_
        refine g_aload_n (pc := 39) 1 dX8_tell_39 rfl rfl ?_
        refine gf_8_walker (pc := 40) kf_X8_62 dX8_tell_40 ?_
        refine gf_7_toldShapes (pc := 43) kf_X8_198 dX8_tell_43 ?_
        refine g_iload (pc := 46) 0 dX8_tell_46 rfl ?_
        refine a_ild (pc := 48) aX_7_toldShapes dX8_tell_48 ?_
        refine g_nmi (fun x2 => ?_)
        refine g_istore (pc := 49) (lv' := [(5, .int x2), (4, .int x1), (0, .ref (q 87)), (1, .int one), (2, .int two), (3, .int bits)]) dX8_tell_49 (Nat.le_of_ble_eq_true rfl) rfl ?_
        refine g_aload_n (pc := 51) 2 dX8_tell_51 rfl rfl ?_
        refine gf_8_walker (pc := 52) kf_X8_62 dX8_tell_52 ?_
        refine gf_7_toldShapes (pc := 55) kf_X8_198 dX8_tell_55 ?_
        refine g_iload (pc := 58) 1 dX8_tell_58 rfl ?_
        refine g_iload_n (pc := 60) 5 dX8_tell_60 rfl rfl ?_
        refine a_ist (pc := 61) aX_7_toldShapes dX8_tell_61 (fun s1 => ?_)
        refine g_iload (pc := 62) 0 dX8_tell_62 rfl ?_
        exact g_iret (pc := 64) (hro _) rfl dX8_tell_64
      · refine g_bipush (pc := 28) (-2) dX8_tell_28 (by decide) ?_
        exact g_iret (pc := 30) (hro _) rfl dX8_tell_30
def f_X8_fails (saying : Int32) (p : Int32) (q_ : Int32) (σ : St) : Option (Int32 × St) := (f_X8_isSaying saying σ).bind fun r1 => (if r1 = (0 : Int32) then some ((-1 : Int32), σ) else (f_X8_isProgram p).bind fun r2 => (if r2 = (0 : Int32) then some ((-1 : Int32), σ) else (f_X8_isProgram q_).bind fun r3 => (if r3 = (0 : Int32) then some ((-1 : Int32), σ) else (f_X8_makeWalk saying p q_ σ).bind fun s1 => chk (inb p 4) (nm (4 + 13 * p.toNatClampNeg) fun k1 => chk (inb q_ 4) (nm (4 + 13 * q_.toNatClampNeg) fun k2 => (f_X7_firstFailing k1 k2 s1).bind (un fun r4 s2 => some (r4, s2)))))))
abbrev rm_X8_fails : Room := { frames := 6, cells := 0, slots := 0, locals := 150 }
set_option maxHeartbeats 4000000 in
set_option maxRecDepth 20000 in
theorem m_X8_fails (l : Launch) (D : va_G) (cy : Cy) (q : Nat → Nat) (σ : St) (saying : Int32) (p : Int32) (q_ : Int32)  : ∀ res, f_X8_fails saying p q_ σ = some res → MetX (vX D cy q) l yX8_fails cX8_fails 4 (some .int) rm_X8_fails [.ref (q 87), .int saying, .int p, .int q_] σ (some (.int res.1), res.2) := by
  let fin_ : (Int32 × St) → Option Value × St := fun r => (some (.int r.1), r.2)
  have hro : ∀ (z : Int32 × St) (res : Int32 × St), some z = some res → fin_ res = fin_ z := fun z res h => by cases h; rfl
  refine MetX.of1 (fin := fin_) (lv := [(0, .ref (q 87)), (1, .int saying), (2, .int p), (3, .int q_)]) (by decide) (Nat.le_of_ble_eq_true rfl) rfl ?_
  unfold f_X8_fails
  refine g_aload_n (pc := 0) 0 dX8_fails_0 rfl rfl ?_
  refine g_iload_n (pc := 1) 1 dX8_fails_1 rfl rfl ?_
  refine gV_i (pc := 2) [.int saying] [] (m_X8_isSaying l D cy q σ saying) cw_X8_isSaying km_X8_140 ⟨rfl, rfl, by decide, by decide⟩ (Nat.le_of_ble_eq_true rfl) (eX_8 (cy := cy) (σ.1 87) (σ.2 87)) rfl dX8_fails_2 rfl rfl (Nat.le_of_ble_eq_true rfl) (fun r1 => ?_)
  refine g_if_eq (pc := 5) 22 dX8_fails_5 (by decide) ?_ ?_
  · refine g_iconst (pc := 22) (-1) dX8_fails_22 (by decide) ?_
    exact g_iret (pc := 23) (hro _) rfl dX8_fails_23
  · refine g_iload_n (pc := 8) 2 dX8_fails_8 rfl rfl ?_
    refine gS_i (pc := 9) [.int p] [] (m_X8_isProgram l D cy q σ p) cw_X8_isProgram km_X8_73 ⟨rfl, rfl, by decide, by decide⟩ dX8_fails_9 rfl rfl (Nat.le_of_ble_eq_true rfl) (fun r2 => ?_)
    refine g_if_eq (pc := 12) 22 dX8_fails_12 (by decide) ?_ ?_
    · refine g_iconst (pc := 22) (-1) dX8_fails_22 (by decide) ?_
      exact g_iret (pc := 23) (hro _) rfl dX8_fails_23
    · refine g_iload_n (pc := 15) 3 dX8_fails_15 rfl rfl ?_
      refine gS_i (pc := 16) [.int q_] [] (m_X8_isProgram l D cy q σ q_) cw_X8_isProgram km_X8_73 ⟨rfl, rfl, by decide, by decide⟩ dX8_fails_16 rfl rfl (Nat.le_of_ble_eq_true rfl) (fun r3 => ?_)
      refine g_if_ne (pc := 19) 24 dX8_fails_19 (by decide) ?_ ?_
      · refine g_aload_n (pc := 24) 0 dX8_fails_24 rfl rfl ?_
        refine g_iload_n (pc := 25) 1 dX8_fails_25 rfl rfl ?_
        refine g_iload_n (pc := 26) 2 dX8_fails_26 rfl rfl ?_
        refine g_iload_n (pc := 27) 3 dX8_fails_27 rfl rfl ?_
        refine gV_v (pc := 28) [.int saying, .int p, .int q_] [] (m_X8_makeWalk l D cy q σ saying p q_) cw_X8_makeWalk km_X8_182 ⟨rfl, rfl, by decide, by decide⟩ (Nat.le_of_ble_eq_true rfl) (eX_8 (cy := cy) (σ.1 87) (σ.2 87)) rfl dX8_fails_28 rfl rfl (Nat.le_of_ble_eq_true rfl) (fun s1 => ?_)
        refine g_aload_n (pc := 31) 0 dX8_fails_31 rfl rfl ?_
        refine gf_8_walker (pc := 32) kf_X8_62 dX8_fails_32 ?_
        refine g_aload_n (pc := 35) 0 dX8_fails_35 rfl rfl ?_
        refine gf_8_programs (pc := 36) kf_X8_14 dX8_fails_36 ?_
        refine g_iload_n (pc := 39) 2 dX8_fails_39 rfl rfl ?_
        refine g_aald (pc := 40) (k := 3) (t0 := 3) (C0 := RX4) (fun j => 4 + 13 * j) (Nat.le_of_ble_eq_true rfl) rfl (fun _ => rfl) rfl dX8_fails_40 (fun k1 h0 => ?_)
        have hk1 := isP_4 h0
        refine g_aload_n (pc := 41) 0 dX8_fails_41 rfl rfl ?_
        refine gf_8_programs (pc := 42) kf_X8_14 dX8_fails_42 ?_
        refine g_iload_n (pc := 45) 3 dX8_fails_45 rfl rfl ?_
        refine g_aald (pc := 46) (k := 3) (t0 := 3) (C0 := RX4) (fun j => 4 + 13 * j) (Nat.le_of_ble_eq_true rfl) rfl (fun _ => rfl) rfl dX8_fails_46 (fun k2 h0 => ?_)
        have hk2 := isP_4 h0
        refine gV_e (pc := 47) [.ref (q k1), .ref (q k2)] [] (m_X7_firstFailing l D cy q s1 k1 k2 hk1 hk2) cw_X7_firstFailing km_X8_201 ⟨rfl, rfl, by decide, by decide⟩ (Nat.le_of_ble_eq_true rfl) (eX_7 (cy := cy) (s1.1 76) (s1.2 76)) rfl dX8_fails_47 rfl rfl (Nat.le_of_ble_eq_true rfl) (fun r4 s2 => ?_)
        exact g_iret (pc := 50) (hro _) rfl dX8_fails_50
      · refine g_iconst (pc := 22) (-1) dX8_fails_22 (by decide) ?_
        exact g_iret (pc := 23) (hro _) rfl dX8_fails_23
def f_X8_so (saying : Int32) (program : Int32) (what : Int32) (σ : St) : Option (Int32 × St) := (f_X8_isSaying saying σ).bind fun r1 => (if r1 = (0 : Int32) then some ((-1 : Int32), σ) else (f_X8_isProgram program).bind fun r2 => (if r2 = (0 : Int32) then some ((-1 : Int32), σ) else (f_X8_isWithin what (1 : Int32)).bind fun r3 => (if r3 = (0 : Int32) then some ((-2 : Int32), σ) else chk (inb program 4) (nm (4 + 13 * program.toNatClampNeg) fun k1 => (f_X4_loudLines k1 σ).bind fun r4 => (f_J6_bitCount_0f7a4 r4).bind fun r5 => (if r5 ≤ (6 : Int32) then chk (inb saying 6) (nm (57 + 2 * saying.toNatClampNeg) fun k2 => (f_X6_fewest k2 k1 σ).bind (un fun r6 s1 => (if r6 = (-6 : Int32) then some ((-5 : Int32), s1) else (if what = (0 : Int32) then some (r6, s1) else (f_J6_bitCount_0f7a4 r6).bind fun r7 => some (r7, s1))))) else some ((-3 : Int32), σ))))))
abbrev rm_X8_so : Room := { frames := 6, cells := 0, slots := 0, locals := 144 }
set_option maxHeartbeats 4000000 in
set_option maxRecDepth 20000 in
theorem m_X8_so (l : Launch) (D : va_G) (cy : Cy) (q : Nat → Nat) (σ : St) (saying : Int32) (program : Int32) (what : Int32)  : ∀ res, f_X8_so saying program what σ = some res → MetX (vX D cy q) l yX8_so cX8_so 6 (some .int) rm_X8_so [.ref (q 87), .int saying, .int program, .int what] σ (some (.int res.1), res.2) := by
  let fin_ : (Int32 × St) → Option Value × St := fun r => (some (.int r.1), r.2)
  have hro : ∀ (z : Int32 × St) (res : Int32 × St), some z = some res → fin_ res = fin_ z := fun z res h => by cases h; rfl
  refine MetX.of1 (fin := fin_) (lv := [(0, .ref (q 87)), (1, .int saying), (2, .int program), (3, .int what)]) (by decide) (Nat.le_of_ble_eq_true rfl) rfl ?_
  unfold f_X8_so
  refine g_aload_n (pc := 0) 0 dX8_so_0 rfl rfl ?_
  refine g_iload_n (pc := 1) 1 dX8_so_1 rfl rfl ?_
  refine gV_i (pc := 2) [.int saying] [] (m_X8_isSaying l D cy q σ saying) cw_X8_isSaying km_X8_140 ⟨rfl, rfl, by decide, by decide⟩ (Nat.le_of_ble_eq_true rfl) (eX_8 (cy := cy) (σ.1 87) (σ.2 87)) rfl dX8_so_2 rfl rfl (Nat.le_of_ble_eq_true rfl) (fun r1 => ?_)
  refine g_if_eq (pc := 5) 15 dX8_so_5 (by decide) ?_ ?_
  · refine g_iconst (pc := 15) (-1) dX8_so_15 (by decide) ?_
    exact g_iret (pc := 16) (hro _) rfl dX8_so_16
  · refine g_iload_n (pc := 8) 2 dX8_so_8 rfl rfl ?_
    refine gS_i (pc := 9) [.int program] [] (m_X8_isProgram l D cy q σ program) cw_X8_isProgram km_X8_73 ⟨rfl, rfl, by decide, by decide⟩ dX8_so_9 rfl rfl (Nat.le_of_ble_eq_true rfl) (fun r2 => ?_)
    refine g_if_ne (pc := 12) 17 dX8_so_12 (by decide) ?_ ?_
    · refine g_iload_n (pc := 17) 3 dX8_so_17 rfl rfl ?_
      refine g_iconst (pc := 18) (1) dX8_so_18 (by decide) ?_
      refine gS_i (pc := 19) [.int what, .int (1 : Int32)] [] (m_X8_isWithin l D cy q σ what (1 : Int32)) cw_X8_isWithin km_X8_99 ⟨rfl, rfl, by decide, by decide⟩ dX8_so_19 rfl rfl (Nat.le_of_ble_eq_true rfl) (fun r3 => ?_)
      refine g_if_ne (pc := 22) 28 dX8_so_22 (by decide) ?_ ?_
      · refine g_aload_n (pc := 28) 0 dX8_so_28 rfl rfl ?_
        refine gf_8_programs (pc := 29) kf_X8_14 dX8_so_29 ?_
        refine g_iload_n (pc := 32) 2 dX8_so_32 rfl rfl ?_
        refine g_aald (pc := 33) (k := 3) (t0 := 3) (C0 := RX4) (fun j => 4 + 13 * j) (Nat.le_of_ble_eq_true rfl) rfl (fun _ => rfl) rfl dX8_so_33 (fun k1 h0 => ?_)
        have hk1 := isP_4 h0
        refine g_astore (pc := 34) (lv' := [(4, .ref (q k1)), (0, .ref (q 87)), (1, .int saying), (2, .int program), (3, .int what)]) dX8_so_34 (Nat.le_of_ble_eq_true rfl) rfl ?_
        refine g_aload (pc := 36) 0 dX8_so_36 rfl ?_
        refine gV_i (pc := 38) [] [] (m_X4_loudLines l D cy q σ k1 hk1) cw_X4_loudLines km_X8_205 ⟨rfl, rfl, by decide, by decide⟩ (by have := hk1.lt; show k1 < 88; omega) (eX_4 (cy := cy) hk1 (σ.1 k1) (σ.2 k1)) rfl dX8_so_38 rfl rfl (Nat.le_of_ble_eq_true rfl) (fun r4 => ?_)
        refine gS_i (pc := 41) [.int r4] [] (m_J6_bitCount_0f7a4 l D cy q σ r4) cw_J6_bitCount_0f7a4 km_X8_208 ⟨rfl, rfl, by decide, by decide⟩ dX8_so_41 rfl rfl (Nat.le_of_ble_eq_true rfl) (fun r5 => ?_)
        refine g_bipush (pc := 44) (6) dX8_so_44 (by decide) ?_
        refine g_icmp_le (pc := 46) 52 dX8_so_46 (by decide) ?_ ?_
        · refine g_aload_n (pc := 52) 1 dX8_so_52 rfl rfl ?_
          refine gf_8_silencer (pc := 53) kf_X8_55 dX8_so_53 ?_
          refine g_aload_n (pc := 56) 1 dX8_so_56 rfl rfl ?_
          refine gf_8_sayings (pc := 57) kf_X8_23 dX8_so_57 ?_
          refine g_iload_n (pc := 60) 2 dX8_so_60 rfl rfl ?_
          refine g_aald (pc := 61) (k := 56) (t0 := 4) (C0 := RX5) (fun j => 57 + 2 * j) (Nat.le_of_ble_eq_true rfl) rfl (fun _ => rfl) rfl dX8_so_61 (fun k2 h0 => ?_)
          have hk2 := isS_6 h0
          refine g_aload (pc := 62) 0 dX8_so_62 rfl ?_
          refine gV_e (pc := 64) [.ref (q k2), .ref (q k1)] [] (m_X6_fewest l D cy q σ k2 k1 hk2 hk1) cw_X6_fewest km_X8_214 ⟨rfl, rfl, by decide, by decide⟩ (Nat.le_of_ble_eq_true rfl) (eX_6 (cy := cy) (σ.1 73) (σ.2 73)) rfl dX8_so_64 rfl rfl (Nat.le_of_ble_eq_true rfl) (fun r6 s1 => ?_)
          refine g_istore (pc := 67) (lv' := [(5, .int r6), (4, .ref (q k1)), (0, .ref (q 87)), (1, .int saying), (2, .int program), (3, .int what)]) dX8_so_67 (Nat.le_of_ble_eq_true rfl) rfl ?_
          refine g_iload (pc := 69) 0 dX8_so_69 rfl ?_
          refine g_bipush (pc := 71) (-6) dX8_so_71 (by decide) ?_
          refine g_icmp_ne (pc := 73) 79 dX8_so_73 (by decide) ?_ ?_
          · refine g_iload_n (pc := 79) 5 dX8_so_79 rfl rfl ?_
            refine g_if_ne (pc := 80) 88 dX8_so_80 (by decide) ?_ ?_
            · refine g_iload (pc := 88) 0 dX8_so_88 rfl ?_
              refine gS_i (pc := 90) [.int r6] [] (m_J6_bitCount_0f7a4 l D cy q s1 r6) cw_J6_bitCount_0f7a4 km_X8_208 ⟨rfl, rfl, by decide, by decide⟩ dX8_so_90 rfl rfl (Nat.le_of_ble_eq_true rfl) (fun r7 => ?_)
              exact g_iret (pc := 93) (hro _) rfl dX8_so_93
            · refine g_iload (pc := 83) 0 dX8_so_83 rfl ?_
              refine g_goto (pc := 85) 93 dX8_so_85 (by decide) ?_
              exact g_iret (pc := 93) (hro _) rfl dX8_so_93
          · refine g_bipush (pc := 76) (-5) dX8_so_76 (by decide) ?_
            exact g_iret (pc := 78) (hro _) rfl dX8_so_78
        · refine g_bipush (pc := 49) (-3) dX8_so_49 (by decide) ?_
          exact g_iret (pc := 51) (hro _) rfl dX8_so_51
      · refine g_bipush (pc := 25) (-2) dX8_so_25 (by decide) ?_
        exact g_iret (pc := 27) (hro _) rfl dX8_so_27
    · refine g_iconst (pc := 15) (-1) dX8_so_15 (by decide) ?_
      exact g_iret (pc := 16) (hro _) rfl dX8_so_16
def b_X8_digitsOf_4 (set : Int32) : (Int32 × Int32) → Option ((Int32 × Int32) ⊕ (Int32)) := un fun y1 y2 => (if (4 : Int32) ≤ y2 then some (.inr y1) else (if ((set >>> (y2 &&& 31)) &&& (1 : Int32)) = (0 : Int32) then nm (y2 + (1 : Int32)) fun x1 => some (.inl (y1, x1)) else (f_X8_withValue y1 y2 (3 : Int32)).bind fun r1 => nm (y2 + (1 : Int32)) fun x2 => some (.inl (r1, x2))))
def f_X8_digitsOf (set : Int32) : Option (Int32) := (wh FU (b_X8_digitsOf_4 set) ((0 : Int32), (0 : Int32))).bind (fun z1 => some z1)
abbrev rm_X8_digitsOf : Room := { frames := 1, cells := 0, slots := 0, locals := 23 }
set_option maxHeartbeats 4000000 in
set_option maxRecDepth 20000 in
theorem m_X8_digitsOf (l : Launch) (D : va_G) (cy : Cy) (q : Nat → Nat) (σ : St) (set : Int32)  : ∀ res, f_X8_digitsOf set = some res → MetX (vX D cy q) l yX8_digitsOf cX8_digitsOf 3 (some .int) rm_X8_digitsOf [.int set] σ (some (.int res), σ) := by
  let fin_ : Int32 → Option Value × St := fun r => (some (.int r), σ)
  have hro : ∀ (z : Int32) (res : Int32), some z = some res → fin_ res = fin_ z := fun z res h => by cases h; rfl
  refine MetX.of1 (fin := fin_) (lv := [(0, .int set)]) (by decide) (Nat.le_of_ble_eq_true rfl) rfl ?_
  unfold f_X8_digitsOf
  refine g_iconst (pc := 0) (0) dX8_digitsOf_0 (by decide) ?_
  refine g_istore_n (pc := 1) (lv' := [(1, .int (0 : Int32)), (0, .int set)]) dX8_digitsOf_1 rfl (Nat.le_of_ble_eq_true rfl) rfl ?_
  refine g_iconst (pc := 2) (0) dX8_digitsOf_2 (by decide) ?_
  refine g_istore_n (pc := 3) (lv' := [(2, .int (0 : Int32)), (1, .int (0 : Int32)), (0, .int set)]) dX8_digitsOf_3 rfl (Nat.le_of_ble_eq_true rfl) rfl ?_
  refine g_sub [2, 1, 0] rfl ?_
  refine g_wh2 (pc := 4) (s0 := ((0 : Int32), (0 : Int32))) (fun (w_ : Int32 × Int32) => σ) (fun (w_ : Int32 × Int32) => [(0, .int set), (1, .int w_.1), (2, .int w_.2)]) (fun (w_ : Int32) => σ) (fun (w_ : Int32) => [(1, .int w_)]) 30 ?_ ?_
  · rintro z1
    try dsimp only [un, Sum.elim_inl]
    refine g_iload_n (pc := 30) 0 dX8_digitsOf_30 rfl rfl ?_
    exact g_iret (pc := 31) (hro _) rfl dX8_digitsOf_31
  · intro K4 hx4 ih4
    rintro ⟨y1, y2⟩
    try dsimp only [b_X8_digitsOf_4, un]
    refine g_iload_n (pc := 4) 2 dX8_digitsOf_4 rfl rfl ?_
    refine g_iconst (pc := 5) (4) dX8_digitsOf_5 (by decide) ?_
    refine g_icmp_ge (pc := 6) 30 dX8_digitsOf_6 (by decide) ?_ ?_
    · exact g_sub [1] rfl (hx4 y1)
    · refine g_iload_n (pc := 9) 0 dX8_digitsOf_9 rfl rfl ?_
      refine g_iload_n (pc := 10) 2 dX8_digitsOf_10 rfl rfl ?_
      refine g_ishr (pc := 11) dX8_digitsOf_11 ?_
      refine g_iconst (pc := 12) (1) dX8_digitsOf_12 (by decide) ?_
      refine g_iand (pc := 13) dX8_digitsOf_13 ?_
      refine g_if_eq (pc := 14) 24 dX8_digitsOf_14 (by decide) ?_ ?_
      · refine g_iinc (pc := 24) (j := 2) (1) (lf := fun x1 => [(2, .int x1), (0, .int set), (1, .int y1)]) dX8_digitsOf_24 rfl (by decide) (Nat.le_of_ble_eq_true rfl) (fun _ => rfl) (fun x1 => ?_)
        refine g_goto (pc := 27) 4 dX8_digitsOf_27 (by decide) ?_
        exact g_sub [1, 2, 0] rfl (ih4 (y1, x1))
      · refine g_iload_n (pc := 17) 1 dX8_digitsOf_17 rfl rfl ?_
        refine g_iload_n (pc := 18) 2 dX8_digitsOf_18 rfl rfl ?_
        refine g_iconst (pc := 19) (3) dX8_digitsOf_19 (by decide) ?_
        refine gS_i (pc := 20) [.int y1, .int y2, .int (3 : Int32)] [] (m_X8_withValue l D cy q σ y1 y2 (3 : Int32)) cw_X8_withValue km_X8_236 ⟨rfl, rfl, by decide, by decide⟩ dX8_digitsOf_20 rfl rfl (Nat.le_of_ble_eq_true rfl) (fun r1 => ?_)
        refine g_istore_n (pc := 23) (lv' := [(1, .int r1), (0, .int set), (2, .int y2)]) dX8_digitsOf_23 rfl (Nat.le_of_ble_eq_true rfl) rfl ?_
        refine g_iinc (pc := 24) (j := 2) (1) (lf := fun x2 => [(2, .int x2), (1, .int r1), (0, .int set)]) dX8_digitsOf_24 rfl (by decide) (Nat.le_of_ble_eq_true rfl) (fun _ => rfl) (fun x2 => ?_)
        refine g_goto (pc := 27) 4 dX8_digitsOf_27 (by decide) ?_
        exact g_sub [2, 1, 0] rfl (ih4 (r1, x2))
def b_X8_fit_77 (start : Int32) (n : Int32) (k1 : Nat) (r6 : Int32) : (Int32 × Int32 × Int32 × St) → Option ((Int32 × Int32 × Int32 × St) ⊕ (Int32 × Int32 × St)) := un fun y1 => un fun y2 => un fun y3 s2 => (if (256 : Int32) ≤ y3 then some (.inr (y1, y2, s2)) else (if ((y3 ^^^ start) &&& r6) = (0 : Int32) then (f_X4_trace k1 y3 s2).bind fun s3 => (f_X4_beginAlike k1 start y3 n s3).bind fun r7 => (if r7 = (0 : Int32) then nm (y3 + (1 : Int32)) fun x1 => some (.inl (y1, y2, x1, s3)) else nm (y1 + (1 : Int32)) fun x2 => (if y2 = (-6 : Int32) then nm (y3 + (1 : Int32)) fun x4 => some (.inl (x2, y3, x4, s3)) else nm (y3 + (1 : Int32)) fun x3 => some (.inl (x2, y2, x3, s3)))) else nm (y3 + (1 : Int32)) fun x5 => some (.inl (y1, y2, x5, s2))))
def f_X8_fit (program : Int32) (start : Int32) (set : Int32) (n : Int32) (what : Int32) (σ : St) : Option (Int32 × St) := (f_X8_isProgram program).bind fun r1 => (if r1 = (0 : Int32) then some ((-1 : Int32), σ) else (f_X8_isMemory start).bind fun r2 => (if r2 = (0 : Int32) then some ((-2 : Int32), σ) else (f_X8_isWithin set (15 : Int32)).bind fun r3 => (if r3 = (0 : Int32) then some ((-2 : Int32), σ) else (f_X8_isWithin n (24 : Int32)).bind fun r4 => (if r4 = (0 : Int32) then some ((-2 : Int32), σ) else (f_X8_isWithin what (1 : Int32)).bind fun r5 => (if r5 = (0 : Int32) then some ((-2 : Int32), σ) else chk (inb program 4) (nm (4 + 13 * program.toNatClampNeg) fun k1 => (f_X8_digitsOf set).bind fun r6 => (f_X4_trace k1 start σ).bind fun s1 => (wh FU (b_X8_fit_77 start n k1 r6) ((0 : Int32), (-6 : Int32), (0 : Int32), s1)).bind (un fun z1 => un fun z2 s4 => (if what = (0 : Int32) then some (z1, s4) else some (z2, s4)))))))))
abbrev rm_X8_fit : Room := { frames := 3, cells := 0, slots := 0, locals := 79 }
set_option maxHeartbeats 4000000 in
set_option maxRecDepth 20000 in
theorem m_X8_fit (l : Launch) (D : va_G) (cy : Cy) (q : Nat → Nat) (σ : St) (program : Int32) (start : Int32) (set : Int32) (n : Int32) (what : Int32)  : ∀ res, f_X8_fit program start set n what σ = some res → MetX (vX D cy q) l yX8_fit cX8_fit 11 (some .int) rm_X8_fit [.ref (q 87), .int program, .int start, .int set, .int n, .int what] σ (some (.int res.1), res.2) := by
  let fin_ : (Int32 × St) → Option Value × St := fun r => (some (.int r.1), r.2)
  have hro : ∀ (z : Int32 × St) (res : Int32 × St), some z = some res → fin_ res = fin_ z := fun z res h => by cases h; rfl
  refine MetX.of1 (fin := fin_) (lv := [(0, .ref (q 87)), (1, .int program), (2, .int start), (3, .int set), (4, .int n), (5, .int what)]) (by decide) (Nat.le_of_ble_eq_true rfl) rfl ?_
  unfold f_X8_fit
  refine g_iload_n (pc := 0) 1 dX8_fit_0 rfl rfl ?_
  refine gS_i (pc := 1) [.int program] [] (m_X8_isProgram l D cy q σ program) cw_X8_isProgram km_X8_73 ⟨rfl, rfl, by decide, by decide⟩ dX8_fit_1 rfl rfl (Nat.le_of_ble_eq_true rfl) (fun r1 => ?_)
  refine g_if_ne (pc := 4) 9 dX8_fit_4 (by decide) ?_ ?_
  · refine g_iload_n (pc := 9) 2 dX8_fit_9 rfl rfl ?_
    refine gS_i (pc := 10) [.int start] [] (m_X8_isMemory l D cy q σ start) cw_X8_isMemory km_X8_106 ⟨rfl, rfl, by decide, by decide⟩ dX8_fit_10 rfl rfl (Nat.le_of_ble_eq_true rfl) (fun r2 => ?_)
    refine g_if_eq (pc := 13) 44 dX8_fit_13 (by decide) ?_ ?_
    · refine g_bipush (pc := 44) (-2) dX8_fit_44 (by decide) ?_
      exact g_iret (pc := 46) (hro _) rfl dX8_fit_46
    · refine g_iload_n (pc := 16) 3 dX8_fit_16 rfl rfl ?_
      refine g_bipush (pc := 17) (15) dX8_fit_17 (by decide) ?_
      refine gS_i (pc := 19) [.int set, .int (15 : Int32)] [] (m_X8_isWithin l D cy q σ set (15 : Int32)) cw_X8_isWithin km_X8_99 ⟨rfl, rfl, by decide, by decide⟩ dX8_fit_19 rfl rfl (Nat.le_of_ble_eq_true rfl) (fun r3 => ?_)
      refine g_if_eq (pc := 22) 44 dX8_fit_22 (by decide) ?_ ?_
      · refine g_bipush (pc := 44) (-2) dX8_fit_44 (by decide) ?_
        exact g_iret (pc := 46) (hro _) rfl dX8_fit_46
      · refine g_iload (pc := 25) 4 dX8_fit_25 rfl ?_
        refine g_bipush (pc := 27) (24) dX8_fit_27 (by decide) ?_
        refine gS_i (pc := 29) [.int n, .int (24 : Int32)] [] (m_X8_isWithin l D cy q σ n (24 : Int32)) cw_X8_isWithin km_X8_99 ⟨rfl, rfl, by decide, by decide⟩ dX8_fit_29 rfl rfl (Nat.le_of_ble_eq_true rfl) (fun r4 => ?_)
        refine g_if_eq (pc := 32) 44 dX8_fit_32 (by decide) ?_ ?_
        · refine g_bipush (pc := 44) (-2) dX8_fit_44 (by decide) ?_
          exact g_iret (pc := 46) (hro _) rfl dX8_fit_46
        · refine g_iload (pc := 35) 5 dX8_fit_35 rfl ?_
          refine g_iconst (pc := 37) (1) dX8_fit_37 (by decide) ?_
          refine gS_i (pc := 38) [.int what, .int (1 : Int32)] [] (m_X8_isWithin l D cy q σ what (1 : Int32)) cw_X8_isWithin km_X8_99 ⟨rfl, rfl, by decide, by decide⟩ dX8_fit_38 rfl rfl (Nat.le_of_ble_eq_true rfl) (fun r5 => ?_)
          refine g_if_ne (pc := 41) 47 dX8_fit_41 (by decide) ?_ ?_
          · refine g_aload_n (pc := 47) 0 dX8_fit_47 rfl rfl ?_
            refine gf_8_programs (pc := 48) kf_X8_14 dX8_fit_48 ?_
            refine g_iload_n (pc := 51) 1 dX8_fit_51 rfl rfl ?_
            refine g_aald (pc := 52) (k := 3) (t0 := 3) (C0 := RX4) (fun j => 4 + 13 * j) (Nat.le_of_ble_eq_true rfl) rfl (fun _ => rfl) rfl dX8_fit_52 (fun k1 h0 => ?_)
            have hk1 := isP_4 h0
            refine g_astore (pc := 53) (lv' := [(6, .ref (q k1)), (0, .ref (q 87)), (1, .int program), (2, .int start), (3, .int set), (4, .int n), (5, .int what)]) dX8_fit_53 (Nat.le_of_ble_eq_true rfl) rfl ?_
            refine g_iload_n (pc := 55) 4 dX8_fit_55 rfl rfl ?_
            refine gS_i (pc := 56) [.int set] [] (m_X8_digitsOf l D cy q σ set) cw_X8_digitsOf km_X8_218 ⟨rfl, rfl, by decide, by decide⟩ dX8_fit_56 rfl rfl (Nat.le_of_ble_eq_true rfl) (fun r6 => ?_)
            refine g_istore (pc := 59) (lv' := [(7, .int r6), (6, .ref (q k1)), (0, .ref (q 87)), (1, .int program), (2, .int start), (3, .int set), (4, .int n), (5, .int what)]) dX8_fit_59 (Nat.le_of_ble_eq_true rfl) rfl ?_
            refine g_iconst (pc := 61) (0) dX8_fit_61 (by decide) ?_
            refine g_istore (pc := 62) (lv' := [(8, .int (0 : Int32)), (7, .int r6), (6, .ref (q k1)), (0, .ref (q 87)), (1, .int program), (2, .int start), (3, .int set), (4, .int n), (5, .int what)]) dX8_fit_62 (Nat.le_of_ble_eq_true rfl) rfl ?_
            refine g_bipush (pc := 64) (-6) dX8_fit_64 (by decide) ?_
            refine g_istore (pc := 66) (lv' := [(9, .int (-6 : Int32)), (8, .int (0 : Int32)), (7, .int r6), (6, .ref (q k1)), (0, .ref (q 87)), (1, .int program), (2, .int start), (3, .int set), (4, .int n), (5, .int what)]) dX8_fit_66 (Nat.le_of_ble_eq_true rfl) rfl ?_
            refine g_aload (pc := 68) 3 dX8_fit_68 rfl ?_
            refine g_iload_n (pc := 70) 6 dX8_fit_70 rfl rfl ?_
            refine gV_v (pc := 71) [.int start] [] (m_X4_trace l D cy q σ k1 start hk1) cw_X4_trace km_X8_109 ⟨rfl, rfl, by decide, by decide⟩ (by have := hk1.lt; show k1 < 88; omega) (eX_4 (cy := cy) hk1 (σ.1 k1) (σ.2 k1)) rfl dX8_fit_71 rfl rfl (Nat.le_of_ble_eq_true rfl) (fun s1 => ?_)
            refine g_iconst (pc := 74) (0) dX8_fit_74 (by decide) ?_
            refine g_istore (pc := 75) (lv' := [(10, .int (0 : Int32)), (9, .int (-6 : Int32)), (8, .int (0 : Int32)), (7, .int r6), (6, .ref (q k1)), (0, .ref (q 87)), (1, .int program), (2, .int start), (3, .int set), (4, .int n), (5, .int what)]) dX8_fit_75 (Nat.le_of_ble_eq_true rfl) rfl ?_
            refine g_sub [7, 9, 10, 4, 3, 2, 1, 0] rfl ?_
            refine g_wh2 (pc := 77) (s0 := ((0 : Int32), (-6 : Int32), (0 : Int32), s1)) (fun (w_ : Int32 × Int32 × Int32 × St) => w_.2.2.2) (fun (w_ : Int32 × Int32 × Int32 × St) => [(2, .int start), (4, .int n), (5, .int what), (6, .ref (q k1)), (7, .int r6), (8, .int w_.1), (9, .int w_.2.1), (10, .int w_.2.2.1)]) (fun (w_ : Int32 × Int32 × St) => w_.2.2) (fun (w_ : Int32 × Int32 × St) => [(5, .int what), (8, .int w_.1), (9, .int w_.2.1)]) 143 ?_ ?_
            · rintro ⟨z1, z2, s4⟩
              try dsimp only [un, Sum.elim_inl]
              refine g_iload (pc := 143) 0 dX8_fit_143 rfl ?_
              refine g_if_ne (pc := 145) 153 dX8_fit_145 (by decide) ?_ ?_
              · refine g_iload (pc := 153) 2 dX8_fit_153 rfl ?_
                exact g_iret (pc := 155) (hro _) rfl dX8_fit_155
              · refine g_iload (pc := 148) 1 dX8_fit_148 rfl ?_
                refine g_goto (pc := 150) 155 dX8_fit_150 (by decide) ?_
                exact g_iret (pc := 155) (hro _) rfl dX8_fit_155
            · intro K77 hx77 ih77
              rintro ⟨y1, y2, y3, s2⟩
              try dsimp only [b_X8_fit_77, un]
              refine g_iload (pc := 77) 7 dX8_fit_77 rfl ?_
              refine g_sipush (pc := 79) (256) dX8_fit_79 (by decide) ?_
              refine g_icmp_ge (pc := 82) 143 dX8_fit_82 (by decide) ?_ ?_
              · exact g_sub [2, 5, 6] rfl (hx77 (y1, y2, s2))
              · refine g_iload (pc := 85) 7 dX8_fit_85 rfl ?_
                refine g_iload_n (pc := 87) 0 dX8_fit_87 rfl rfl ?_
                refine g_ixor (pc := 88) dX8_fit_88 ?_
                refine g_iload (pc := 89) 4 dX8_fit_89 rfl ?_
                refine g_iand (pc := 91) dX8_fit_91 ?_
                refine g_if_eq (pc := 92) 98 dX8_fit_92 (by decide) ?_ ?_
                · refine g_aload (pc := 98) 3 dX8_fit_98 rfl ?_
                  refine g_iload (pc := 100) 7 dX8_fit_100 rfl ?_
                  refine gV_v (pc := 102) [.int y3] [] (m_X4_trace l D cy q s2 k1 y3 hk1) cw_X4_trace km_X8_109 ⟨rfl, rfl, by decide, by decide⟩ (by have := hk1.lt; show k1 < 88; omega) (eX_4 (cy := cy) hk1 (s2.1 k1) (s2.2 k1)) rfl dX8_fit_102 rfl rfl (Nat.le_of_ble_eq_true rfl) (fun s3 => ?_)
                  refine g_aload (pc := 105) 3 dX8_fit_105 rfl ?_
                  refine g_iload_n (pc := 107) 0 dX8_fit_107 rfl rfl ?_
                  refine g_iload (pc := 108) 7 dX8_fit_108 rfl ?_
                  refine g_iload (pc := 110) 1 dX8_fit_110 rfl ?_
                  refine gV_i (pc := 112) [.int start, .int y3, .int n] [] (m_X4_beginAlike l D cy q s3 k1 start y3 n hk1) cw_X4_beginAlike km_X8_221 ⟨rfl, rfl, by decide, by decide⟩ (by have := hk1.lt; show k1 < 88; omega) (eX_4 (cy := cy) hk1 (s3.1 k1) (s3.2 k1)) rfl dX8_fit_112 rfl rfl (Nat.le_of_ble_eq_true rfl) (fun r7 => ?_)
                  refine g_if_eq (pc := 115) 137 dX8_fit_115 (by decide) ?_ ?_
                  · refine g_iinc (pc := 137) (j := 7) (1) (lf := fun x1 => [(10, .int x1), (2, .int start), (4, .int n), (5, .int what), (6, .ref (q k1)), (7, .int r6), (8, .int y1), (9, .int y2)]) dX8_fit_137 rfl (by decide) (Nat.le_of_ble_eq_true rfl) (fun _ => rfl) (fun x1 => ?_)
                    refine g_goto (pc := 140) 77 dX8_fit_140 (by decide) ?_
                    exact g_sub [1, 2, 3, 4, 5, 6, 7, 0] rfl (ih77 (y1, y2, x1, s3))
                  · refine g_iinc (pc := 118) (j := 5) (1) (lf := fun x2 => [(8, .int x2), (2, .int start), (4, .int n), (5, .int what), (6, .ref (q k1)), (7, .int r6), (9, .int y2), (10, .int y3)]) dX8_fit_118 rfl (by decide) (Nat.le_of_ble_eq_true rfl) (fun _ => rfl) (fun x2 => ?_)
                    refine g_iload (pc := 121) 6 dX8_fit_121 rfl ?_
                    refine g_bipush (pc := 123) (-6) dX8_fit_123 (by decide) ?_
                    refine g_icmp_ne (pc := 125) 133 dX8_fit_125 (by decide) ?_ ?_
                    · refine g_iload (pc := 133) 6 dX8_fit_133 rfl ?_
                      refine g_istore (pc := 135) (lv' := [(9, .int y2), (8, .int x2), (2, .int start), (4, .int n), (5, .int what), (6, .ref (q k1)), (7, .int r6), (10, .int y3)]) dX8_fit_135 (Nat.le_of_ble_eq_true rfl) rfl ?_
                      refine g_iinc (pc := 137) (j := 7) (1) (lf := fun x3 => [(10, .int x3), (9, .int y2), (8, .int x2), (2, .int start), (4, .int n), (5, .int what), (6, .ref (q k1)), (7, .int r6)]) dX8_fit_137 rfl (by decide) (Nat.le_of_ble_eq_true rfl) (fun _ => rfl) (fun x3 => ?_)
                      refine g_goto (pc := 140) 77 dX8_fit_140 (by decide) ?_
                      exact g_sub [3, 4, 5, 6, 7, 2, 1, 0] rfl (ih77 (x2, y2, x3, s3))
                    · refine g_iload (pc := 128) 7 dX8_fit_128 rfl ?_
                      refine g_goto (pc := 130) 135 dX8_fit_130 (by decide) ?_
                      refine g_istore (pc := 135) (lv' := [(9, .int y3), (8, .int x2), (2, .int start), (4, .int n), (5, .int what), (6, .ref (q k1)), (7, .int r6), (10, .int y3)]) dX8_fit_135 (Nat.le_of_ble_eq_true rfl) rfl ?_
                      refine g_iinc (pc := 137) (j := 7) (1) (lf := fun x4 => [(10, .int x4), (9, .int y3), (8, .int x2), (2, .int start), (4, .int n), (5, .int what), (6, .ref (q k1)), (7, .int r6)]) dX8_fit_137 rfl (by decide) (Nat.le_of_ble_eq_true rfl) (fun _ => rfl) (fun x4 => ?_)
                      refine g_goto (pc := 140) 77 dX8_fit_140 (by decide) ?_
                      exact g_sub [3, 4, 5, 6, 7, 2, 1, 0] rfl (ih77 (x2, y3, x4, s3))
                · refine g_goto (pc := 95) 137 dX8_fit_95 (by decide) ?_
                  refine g_iinc (pc := 137) (j := 7) (1) (lf := fun x5 => [(10, .int x5), (2, .int start), (4, .int n), (5, .int what), (6, .ref (q k1)), (7, .int r6), (8, .int y1), (9, .int y2)]) dX8_fit_137 rfl (by decide) (Nat.le_of_ble_eq_true rfl) (fun _ => rfl) (fun x5 => ?_)
                  refine g_goto (pc := 140) 77 dX8_fit_140 (by decide) ?_
                  exact g_sub [1, 2, 3, 4, 5, 6, 7, 0] rfl (ih77 (y1, y2, x5, s2))
          · refine g_bipush (pc := 44) (-2) dX8_fit_44 (by decide) ?_
            exact g_iret (pc := 46) (hro _) rfl dX8_fit_46
  · refine g_iconst (pc := 7) (-1) dX8_fit_7 (by decide) ?_
    exact g_iret (pc := 8) (hro _) rfl dX8_fit_8
