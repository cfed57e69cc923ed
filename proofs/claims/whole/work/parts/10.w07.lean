def b_X8_far_106 (x : Int32) (y : Int32) (k1 : Nat) (s1 : St) (y2 : Int32) (r5 : Int32) (x1 : Int32) : (Int32 × Int32) → Option ((Int32 × Int32) ⊕ (Int32)) := un fun y3 y4 => (if x1 < y4 then some (.inr y3) else (f_X8_withValue y2 x y4).bind fun r6 => chk (inb r6 256) ((f_X8_valueOf (s1.1 (k1 + 8) r6.toNatClampNeg) y).bind fun r7 => nm (mmax y3 (mabs (r5 - r7))) fun x3 => nm (y4 + (1 : Int32)) fun x4 => some (.inl (x3, x4))))
def b_X8_far_59 (x : Int32) (y : Int32) (d : Int32) (k1 : Nat) (s1 : St) : (Int32 × Int32) → Option ((Int32 × Int32) ⊕ (Int32)) := un fun y1 y2 => (if (256 : Int32) ≤ y2 then some (.inr y1) else (f_X8_valueOf y2 x).bind fun r4 => chk (inb y2 256) ((f_X8_valueOf (s1.1 (k1 + 8) y2.toNatClampNeg) y).bind fun r5 => nm (mmin (3 : Int32) (r4 + d)) fun x1 => nm (r4 + (1 : Int32)) fun x2 => (wh FU (b_X8_far_106 x y k1 s1 y2 r5 x1) (y1, x2)).bind (fun z1 => nm (y2 + (1 : Int32)) fun x5 => some (.inl (z1, x5)))))
def f_X8_far (program : Int32) (x : Int32) (y : Int32) (d : Int32) (σ : St) : Option (Int32 × St) := (f_X8_isProgram program).bind fun r1 => (if r1 = (0 : Int32) then some ((-1 : Int32), σ) else (f_X8_isWithin x (3 : Int32)).bind fun r2 => (if r2 = (0 : Int32) then some ((-2 : Int32), σ) else (f_X8_isWithin y (3 : Int32)).bind fun r3 => (if r3 = (0 : Int32) then some ((-2 : Int32), σ) else (if d < (1 : Int32) then some ((-2 : Int32), σ) else (if d ≤ (3 : Int32) then chk (inb program 4) (nm (4 + 13 * program.toNatClampNeg) fun k1 => (f_X4_traceAll k1 σ).bind fun s1 => (wh FU (b_X8_far_59 x y d k1 s1) ((0 : Int32), (0 : Int32))).bind (fun z2 => some (z2, s1))) else some ((-2 : Int32), σ))))))
abbrev rm_X8_far : Room := { frames := 4, cells := 0, slots := 0, locals := 100 }
set_option maxHeartbeats 4000000 in
set_option maxRecDepth 20000 in
theorem m_X8_far (l : Launch) (D : va_G) (cy : Cy) (q : Nat → Nat) (σ : St) (program : Int32) (x : Int32) (y : Int32) (d : Int32)  : ∀ res, f_X8_far program x y d σ = some res → MetX (vX D cy q) l yX8_far cX8_far 14 (some .int) rm_X8_far [.ref (q 87), .int program, .int x, .int y, .int d] σ (some (.int res.1), res.2) := by
  let fin_ : (Int32 × St) → Option Value × St := fun r => (some (.int r.1), r.2)
  have hro : ∀ (z : Int32 × St) (res : Int32 × St), some z = some res → fin_ res = fin_ z := fun z res h => by cases h; rfl
  refine MetX.of1 (fin := fin_) (lv := [(0, .ref (q 87)), (1, .int program), (2, .int x), (3, .int y), (4, .int d)]) (by decide) (Nat.le_of_ble_eq_true rfl) rfl ?_
  unfold f_X8_far
  refine g_iload_n (pc := 0) 1 dX8_far_0 rfl rfl ?_
  refine gS_i (pc := 1) [.int program] [] (m_X8_isProgram l D cy q σ program) cw_X8_isProgram km_X8_73 ⟨rfl, rfl, by decide, by decide⟩ dX8_far_1 rfl rfl (Nat.le_of_ble_eq_true rfl) (fun r1 => ?_)
  refine g_if_ne (pc := 4) 9 dX8_far_4 (by decide) ?_ ?_
  · refine g_iload_n (pc := 9) 2 dX8_far_9 rfl rfl ?_
    refine g_iconst (pc := 10) (3) dX8_far_10 (by decide) ?_
    refine gS_i (pc := 11) [.int x, .int (3 : Int32)] [] (m_X8_isWithin l D cy q σ x (3 : Int32)) cw_X8_isWithin km_X8_99 ⟨rfl, rfl, by decide, by decide⟩ dX8_far_11 rfl rfl (Nat.le_of_ble_eq_true rfl) (fun r2 => ?_)
    refine g_if_eq (pc := 14) 37 dX8_far_14 (by decide) ?_ ?_
    · refine g_bipush (pc := 37) (-2) dX8_far_37 (by decide) ?_
      exact g_iret (pc := 39) (hro _) rfl dX8_far_39
    · refine g_iload_n (pc := 17) 3 dX8_far_17 rfl rfl ?_
      refine g_iconst (pc := 18) (3) dX8_far_18 (by decide) ?_
      refine gS_i (pc := 19) [.int y, .int (3 : Int32)] [] (m_X8_isWithin l D cy q σ y (3 : Int32)) cw_X8_isWithin km_X8_99 ⟨rfl, rfl, by decide, by decide⟩ dX8_far_19 rfl rfl (Nat.le_of_ble_eq_true rfl) (fun r3 => ?_)
      refine g_if_eq (pc := 22) 37 dX8_far_22 (by decide) ?_ ?_
      · refine g_bipush (pc := 37) (-2) dX8_far_37 (by decide) ?_
        exact g_iret (pc := 39) (hro _) rfl dX8_far_39
      · refine g_iload (pc := 25) 4 dX8_far_25 rfl ?_
        refine g_iconst (pc := 27) (1) dX8_far_27 (by decide) ?_
        refine g_icmp_lt (pc := 28) 37 dX8_far_28 (by decide) ?_ ?_
        · refine g_bipush (pc := 37) (-2) dX8_far_37 (by decide) ?_
          exact g_iret (pc := 39) (hro _) rfl dX8_far_39
        · refine g_iload (pc := 31) 4 dX8_far_31 rfl ?_
          refine g_iconst (pc := 33) (3) dX8_far_33 (by decide) ?_
          refine g_icmp_le (pc := 34) 40 dX8_far_34 (by decide) ?_ ?_
          · refine g_aload_n (pc := 40) 0 dX8_far_40 rfl rfl ?_
            refine gf_8_programs (pc := 41) kf_X8_14 dX8_far_41 ?_
            refine g_iload_n (pc := 44) 1 dX8_far_44 rfl rfl ?_
            refine g_aald (pc := 45) (k := 3) (t0 := 3) (C0 := RX4) (fun j => 4 + 13 * j) (Nat.le_of_ble_eq_true rfl) rfl (fun _ => rfl) rfl dX8_far_45 (fun k1 h0 => ?_)
            have hk1 := isP_4 h0
            refine g_astore (pc := 46) (lv' := [(5, .ref (q k1)), (0, .ref (q 87)), (1, .int program), (2, .int x), (3, .int y), (4, .int d)]) dX8_far_46 (Nat.le_of_ble_eq_true rfl) rfl ?_
            refine g_aload (pc := 48) 0 dX8_far_48 rfl ?_
            refine gV_v (pc := 50) [] [] (m_X4_traceAll l D cy q σ k1 hk1) cw_X4_traceAll km_X8_225 ⟨rfl, rfl, by decide, by decide⟩ (by have := hk1.lt; show k1 < 88; omega) (eX_4 (cy := cy) hk1 (σ.1 k1) (σ.2 k1)) rfl dX8_far_50 rfl rfl (Nat.le_of_ble_eq_true rfl) (fun s1 => ?_)
            refine g_iconst (pc := 53) (0) dX8_far_53 (by decide) ?_
            refine g_istore (pc := 54) (lv' := [(6, .int (0 : Int32)), (5, .ref (q k1)), (0, .ref (q 87)), (1, .int program), (2, .int x), (3, .int y), (4, .int d)]) dX8_far_54 (Nat.le_of_ble_eq_true rfl) rfl ?_
            refine g_iconst (pc := 56) (0) dX8_far_56 (by decide) ?_
            refine g_istore (pc := 57) (lv' := [(7, .int (0 : Int32)), (6, .int (0 : Int32)), (5, .ref (q k1)), (0, .ref (q 87)), (1, .int program), (2, .int x), (3, .int y), (4, .int d)]) dX8_far_57 (Nat.le_of_ble_eq_true rfl) rfl ?_
            refine g_sub [5, 6, 7, 2, 1, 0] rfl ?_
            refine g_wh2 (pc := 59) (s0 := ((0 : Int32), (0 : Int32))) (fun (w_ : Int32 × Int32) => s1) (fun (w_ : Int32 × Int32) => [(2, .int x), (3, .int y), (4, .int d), (5, .ref (q k1)), (6, .int w_.1), (7, .int w_.2)]) (fun (w_ : Int32) => s1) (fun (w_ : Int32) => [(6, .int w_)]) 164 ?_ ?_
            · rintro z2
              try dsimp only [un, Sum.elim_inl]
              refine g_iload (pc := 164) 0 dX8_far_164 rfl ?_
              exact g_iret (pc := 166) (hro _) rfl dX8_far_166
            · intro K59 hx59 ih59
              rintro ⟨y1, y2⟩
              try dsimp only [b_X8_far_59, un]
              refine g_iload (pc := 59) 5 dX8_far_59 rfl ?_
              refine g_sipush (pc := 61) (256) dX8_far_61 (by decide) ?_
              refine g_icmp_ge (pc := 64) 164 dX8_far_64 (by decide) ?_ ?_
              · exact g_sub [4] rfl (hx59 y1)
              · refine g_iload (pc := 67) 5 dX8_far_67 rfl ?_
                refine g_iload_n (pc := 69) 0 dX8_far_69 rfl rfl ?_
                refine gS_i (pc := 70) [.int y2, .int x] [] (m_X8_valueOf l (vX D cy q) s1 y2 x) cw_X8_valueOf km_X8_228 ⟨rfl, rfl, by decide, by decide⟩ dX8_far_70 rfl rfl (Nat.le_of_ble_eq_true rfl) (fun r4 => ?_)
                refine g_istore (pc := 73) (lv' := [(8, .int r4), (2, .int x), (3, .int y), (4, .int d), (5, .ref (q k1)), (6, .int y1), (7, .int y2)]) dX8_far_73 (Nat.le_of_ble_eq_true rfl) rfl ?_
                refine g_aload (pc := 75) 4 dX8_far_75 rfl ?_
                refine gf_4_lastOf (pc := 77) hk1 kf_X8_115 dX8_far_77 ?_
                refine g_iload (pc := 80) 6 dX8_far_80 rfl ?_
                refine a_ild (pc := 82) (aX_4_lastOf hk1) dX8_far_82 ?_
                refine g_iload_n (pc := 83) 2 dX8_far_83 rfl rfl ?_
                refine gS_i (pc := 84) [.int (s1.1 (k1 + 8) y2.toNatClampNeg), .int y] [] (m_X8_valueOf l (vX D cy q) s1 (s1.1 (k1 + 8) y2.toNatClampNeg) y) cw_X8_valueOf km_X8_228 ⟨rfl, rfl, by decide, by decide⟩ dX8_far_84 rfl rfl (Nat.le_of_ble_eq_true rfl) (fun r5 => ?_)
                refine g_istore (pc := 87) (lv' := [(9, .int r5), (8, .int r4), (2, .int x), (3, .int y), (4, .int d), (5, .ref (q k1)), (6, .int y1), (7, .int y2)]) dX8_far_87 (Nat.le_of_ble_eq_true rfl) rfl ?_
                refine g_iconst (pc := 89) (3) dX8_far_89 (by decide) ?_
                refine g_iload (pc := 90) 1 dX8_far_90 rfl ?_
                refine g_iload (pc := 92) 4 dX8_far_92 rfl ?_
                refine g_iadd (pc := 94) dX8_far_94 ?_
                refine g_mmin (pc := 95) km_X8_231 ⟨by decide, Nat.le_of_ble_eq_true rfl⟩ dX8_far_95 ?_
                refine g_nmi (fun x1 => ?_)
                refine g_istore (pc := 98) (lv' := [(10, .int x1), (9, .int r5), (8, .int r4), (2, .int x), (3, .int y), (4, .int d), (5, .ref (q k1)), (6, .int y1), (7, .int y2)]) dX8_far_98 (Nat.le_of_ble_eq_true rfl) rfl ?_
                refine g_iload (pc := 100) 2 dX8_far_100 rfl ?_
                refine g_iconst (pc := 102) (1) dX8_far_102 (by decide) ?_
                refine g_iadd (pc := 103) dX8_far_103 ?_
                refine g_nmi (fun x2 => ?_)
                refine g_istore (pc := 104) (lv' := [(11, .int x2), (10, .int x1), (9, .int r5), (8, .int r4), (2, .int x), (3, .int y), (4, .int d), (5, .ref (q k1)), (6, .int y1), (7, .int y2)]) dX8_far_104 (Nat.le_of_ble_eq_true rfl) rfl ?_
                refine g_sub [4, 5, 6, 7, 8, 9, 2, 1, 0] rfl ?_
                refine g_wh2 (pc := 106) (s0 := (y1, x2)) (fun (w_ : Int32 × Int32) => s1) (fun (w_ : Int32 × Int32) => [(2, .int x), (3, .int y), (4, .int d), (5, .ref (q k1)), (6, .int w_.1), (7, .int y2), (9, .int r5), (10, .int x1), (11, .int w_.2)]) (fun (w_ : Int32) => s1) (fun (w_ : Int32) => [(2, .int x), (3, .int y), (4, .int d), (5, .ref (q k1)), (6, .int w_), (7, .int y2)]) 158 ?_ ?_
                · rintro z1
                  try dsimp only [un, Sum.elim_inl]
                  refine g_iinc (pc := 158) (j := 5) (1) (lf := fun x5 => [(7, .int x5), (2, .int x), (3, .int y), (4, .int d), (5, .ref (q k1)), (6, .int z1)]) dX8_far_158 rfl (by decide) (Nat.le_of_ble_eq_true rfl) (fun _ => rfl) (fun x5 => ?_)
                  refine g_goto (pc := 161) 59 dX8_far_161 (by decide) ?_
                  exact g_sub [1, 2, 3, 4, 5, 0] rfl (ih59 (z1, x5))
                · intro K106 hx106 ih106
                  rintro ⟨y3, y4⟩
                  try dsimp only [b_X8_far_106, un]
                  refine g_iload (pc := 106) 8 dX8_far_106 rfl ?_
                  refine g_iload (pc := 108) 7 dX8_far_108 rfl ?_
                  refine g_icmp_gt (pc := 110) 158 dX8_far_110 (by decide) ?_ ?_
                  · exact g_sub [0, 1, 2, 3, 4, 5] rfl (hx106 y3)
                  · refine g_iload (pc := 113) 5 dX8_far_113 rfl ?_
                    refine g_iload_n (pc := 115) 0 dX8_far_115 rfl rfl ?_
                    refine g_iload (pc := 116) 8 dX8_far_116 rfl ?_
                    refine gS_i (pc := 118) [.int y2, .int x, .int y4] [] (m_X8_withValue l D cy q s1 y2 x y4) cw_X8_withValue km_X8_236 ⟨rfl, rfl, by decide, by decide⟩ dX8_far_118 rfl rfl (Nat.le_of_ble_eq_true rfl) (fun r6 => ?_)
                    refine g_istore (pc := 121) (lv' := [(12, .int r6), (2, .int x), (3, .int y), (4, .int d), (5, .ref (q k1)), (6, .int y3), (7, .int y2), (9, .int r5), (10, .int x1), (11, .int y4)]) dX8_far_121 (Nat.le_of_ble_eq_true rfl) rfl ?_
                    refine g_aload (pc := 123) 4 dX8_far_123 rfl ?_
                    refine gf_4_lastOf (pc := 125) hk1 kf_X8_115 dX8_far_125 ?_
                    refine g_iload (pc := 128) 0 dX8_far_128 rfl ?_
                    refine a_ild (pc := 130) (aX_4_lastOf hk1) dX8_far_130 ?_
                    refine g_iload_n (pc := 131) 2 dX8_far_131 rfl rfl ?_
                    refine gS_i (pc := 132) [.int (s1.1 (k1 + 8) r6.toNatClampNeg), .int y] [] (m_X8_valueOf l (vX D cy q) s1 (s1.1 (k1 + 8) r6.toNatClampNeg) y) cw_X8_valueOf km_X8_228 ⟨rfl, rfl, by decide, by decide⟩ dX8_far_132 rfl rfl (Nat.le_of_ble_eq_true rfl) (fun r7 => ?_)
                    refine g_istore (pc := 135) (lv' := [(13, .int r7), (12, .int r6), (2, .int x), (3, .int y), (4, .int d), (5, .ref (q k1)), (6, .int y3), (7, .int y2), (9, .int r5), (10, .int x1), (11, .int y4)]) dX8_far_135 (Nat.le_of_ble_eq_true rfl) rfl ?_
                    refine g_iload (pc := 137) 6 dX8_far_137 rfl ?_
                    refine g_iload (pc := 139) 8 dX8_far_139 rfl ?_
                    refine g_iload (pc := 141) 0 dX8_far_141 rfl ?_
                    refine g_isub (pc := 143) dX8_far_143 ?_
                    refine g_mabs (pc := 144) km_X8_239 ⟨by decide, Nat.le_of_ble_eq_true rfl⟩ dX8_far_144 ?_
                    refine g_mmax (pc := 147) km_X8_242 ⟨by decide, Nat.le_of_ble_eq_true rfl⟩ dX8_far_147 ?_
                    refine g_nmi (fun x3 => ?_)
                    refine g_istore (pc := 150) (lv' := [(6, .int x3), (13, .int r7), (12, .int r6), (2, .int x), (3, .int y), (4, .int d), (5, .ref (q k1)), (7, .int y2), (9, .int r5), (10, .int x1), (11, .int y4)]) dX8_far_150 (Nat.le_of_ble_eq_true rfl) rfl ?_
                    refine g_iinc (pc := 152) (j := 10) (1) (lf := fun x4 => [(11, .int x4), (6, .int x3), (13, .int r7), (12, .int r6), (2, .int x), (3, .int y), (4, .int d), (5, .ref (q k1)), (7, .int y2), (9, .int r5), (10, .int x1)]) dX8_far_152 rfl (by decide) (Nat.le_of_ble_eq_true rfl) (fun _ => rfl) (fun x4 => ?_)
                    refine g_goto (pc := 155) 106 dX8_far_155 (by decide) ?_
                    exact g_sub [4, 5, 6, 7, 1, 8, 9, 10, 0] rfl (ih106 (x3, x4))
          · refine g_bipush (pc := 37) (-2) dX8_far_37 (by decide) ?_
            exact g_iret (pc := 39) (hro _) rfl dX8_far_39
  · refine g_iconst (pc := 7) (-1) dX8_far_7 (by decide) ?_
    exact g_iret (pc := 8) (hro _) rfl dX8_far_8
def b_X8_changed_76 (k1 : Nat) (k2 : Nat) (s2 : St) : (Int32 × Int32 × Int32) → Option ((Int32 × Int32 × Int32) ⊕ (Int32 × Int32)) := un fun y1 => un fun y2 y3 => (if (256 : Int32) ≤ y3 then some (.inr (y1, y2)) else chk (inb y3 256) (chk (inb y3 256) (nm (((s2.2 (k1 + 12) y3.toNatClampNeg) ^^^ (s2.2 (k2 + 12) y3.toNatClampNeg)) &&& (4503599627370495 : Int64)) fun x1 => (if (lg_cmp x1 (0 : Int64)) = (0 : Int32) then chk (inb y3 256) (chk (inb y3 256) ((if (s2.1 (k1 + 8) y3.toNatClampNeg) = (s2.1 (k2 + 8) y3.toNatClampNeg) then nm (y3 + (1 : Int32)) fun x5 => some (.inl (y1, y2, x5)) else nm (y1 + (1 : Int32)) fun x6 => (if y2 = (-6 : Int32) then nm (y3 + (1 : Int32)) fun x8 => some (.inl (x6, y3, x8)) else nm (y3 + (1 : Int32)) fun x7 => some (.inl (x6, y2, x7)))))) else nm (y1 + (1 : Int32)) fun x2 => (if y2 = (-6 : Int32) then nm (y3 + (1 : Int32)) fun x4 => some (.inl (x2, y3, x4)) else nm (y3 + (1 : Int32)) fun x3 => some (.inl (x2, y2, x3)))))))
def f_X8_changed (p : Int32) (q_ : Int32) (what : Int32) (σ : St) : Option (Int32 × St) := (f_X8_isProgram p).bind fun r1 => (if r1 = (0 : Int32) then some ((-1 : Int32), σ) else (f_X8_isProgram q_).bind fun r2 => (if r2 = (0 : Int32) then some ((-1 : Int32), σ) else (f_X8_isWithin what (2 : Int32)).bind fun r3 => (if r3 = (0 : Int32) then some ((-2 : Int32), σ) else chk (inb p 4) (nm (4 + 13 * p.toNatClampNeg) fun k1 => chk (inb q_ 4) (nm (4 + 13 * q_.toNatClampNeg) fun k2 => (if what = (2 : Int32) then (f_X4_unlikeLines k1 k2 σ).bind fun r4 => some (r4, σ) else (f_X4_traceAll k1 σ).bind fun s1 => (f_X4_traceAll k2 s1).bind fun s2 => (wh FU (b_X8_changed_76 k1 k2 s2) ((0 : Int32), (-6 : Int32), (0 : Int32))).bind (un fun z1 z2 => (if what = (0 : Int32) then some (z1, s2) else some (z2, s2)))))))))
abbrev rm_X8_changed : Room := { frames := 4, cells := 0, slots := 0, locals := 100 }
set_option maxHeartbeats 4000000 in
set_option maxRecDepth 20000 in
theorem m_X8_changed (l : Launch) (D : va_G) (cy : Cy) (q : Nat → Nat) (σ : St) (p : Int32) (q_ : Int32) (what : Int32)  : ∀ res, f_X8_changed p q_ what σ = some res → MetX (vX D cy q) l yX8_changed cX8_changed 11 (some .int) rm_X8_changed [.ref (q 87), .int p, .int q_, .int what] σ (some (.int res.1), res.2) := by
  let fin_ : (Int32 × St) → Option Value × St := fun r => (some (.int r.1), r.2)
  have hro : ∀ (z : Int32 × St) (res : Int32 × St), some z = some res → fin_ res = fin_ z := fun z res h => by cases h; rfl
  refine MetX.of1 (fin := fin_) (lv := [(0, .ref (q 87)), (1, .int p), (2, .int q_), (3, .int what)]) (by decide) (Nat.le_of_ble_eq_true rfl) rfl ?_
  unfold f_X8_changed
  refine g_iload_n (pc := 0) 1 dX8_changed_0 rfl rfl ?_
  refine gS_i (pc := 1) [.int p] [] (m_X8_isProgram l D cy q σ p) cw_X8_isProgram km_X8_73 ⟨rfl, rfl, by decide, by decide⟩ dX8_changed_1 rfl rfl (Nat.le_of_ble_eq_true rfl) (fun r1 => ?_)
  refine g_if_eq (pc := 4) 14 dX8_changed_4 (by decide) ?_ ?_
  · refine g_iconst (pc := 14) (-1) dX8_changed_14 (by decide) ?_
    exact g_iret (pc := 15) (hro _) rfl dX8_changed_15
  · refine g_iload_n (pc := 7) 2 dX8_changed_7 rfl rfl ?_
    refine gS_i (pc := 8) [.int q_] [] (m_X8_isProgram l D cy q σ q_) cw_X8_isProgram km_X8_73 ⟨rfl, rfl, by decide, by decide⟩ dX8_changed_8 rfl rfl (Nat.le_of_ble_eq_true rfl) (fun r2 => ?_)
    refine g_if_ne (pc := 11) 16 dX8_changed_11 (by decide) ?_ ?_
    · refine g_iload_n (pc := 16) 3 dX8_changed_16 rfl rfl ?_
      refine g_iconst (pc := 17) (2) dX8_changed_17 (by decide) ?_
      refine gS_i (pc := 18) [.int what, .int (2 : Int32)] [] (m_X8_isWithin l D cy q σ what (2 : Int32)) cw_X8_isWithin km_X8_99 ⟨rfl, rfl, by decide, by decide⟩ dX8_changed_18 rfl rfl (Nat.le_of_ble_eq_true rfl) (fun r3 => ?_)
      refine g_if_ne (pc := 21) 27 dX8_changed_21 (by decide) ?_ ?_
      · refine g_aload_n (pc := 27) 0 dX8_changed_27 rfl rfl ?_
        refine gf_8_programs (pc := 28) kf_X8_14 dX8_changed_28 ?_
        refine g_iload_n (pc := 31) 1 dX8_changed_31 rfl rfl ?_
        refine g_aald (pc := 32) (k := 3) (t0 := 3) (C0 := RX4) (fun j => 4 + 13 * j) (Nat.le_of_ble_eq_true rfl) rfl (fun _ => rfl) rfl dX8_changed_32 (fun k1 h0 => ?_)
        have hk1 := isP_4 h0
        refine g_astore (pc := 33) (lv' := [(4, .ref (q k1)), (0, .ref (q 87)), (1, .int p), (2, .int q_), (3, .int what)]) dX8_changed_33 (Nat.le_of_ble_eq_true rfl) rfl ?_
        refine g_aload_n (pc := 35) 1 dX8_changed_35 rfl rfl ?_
        refine gf_8_programs (pc := 36) kf_X8_14 dX8_changed_36 ?_
        refine g_iload_n (pc := 39) 3 dX8_changed_39 rfl rfl ?_
        refine g_aald (pc := 40) (k := 3) (t0 := 3) (C0 := RX4) (fun j => 4 + 13 * j) (Nat.le_of_ble_eq_true rfl) rfl (fun _ => rfl) rfl dX8_changed_40 (fun k2 h0 => ?_)
        have hk2 := isP_4 h0
        refine g_astore (pc := 41) (lv' := [(5, .ref (q k2)), (4, .ref (q k1)), (0, .ref (q 87)), (1, .int p), (2, .int q_), (3, .int what)]) dX8_changed_41 (Nat.le_of_ble_eq_true rfl) rfl ?_
        refine g_iload_n (pc := 43) 5 dX8_changed_43 rfl rfl ?_
        refine g_iconst (pc := 44) (2) dX8_changed_44 (by decide) ?_
        refine g_icmp_ne (pc := 45) 56 dX8_changed_45 (by decide) ?_ ?_
        · refine g_aload (pc := 56) 1 dX8_changed_56 rfl ?_
          refine gV_v (pc := 58) [] [] (m_X4_traceAll l D cy q σ k1 hk1) cw_X4_traceAll km_X8_225 ⟨rfl, rfl, by decide, by decide⟩ (by have := hk1.lt; show k1 < 88; omega) (eX_4 (cy := cy) hk1 (σ.1 k1) (σ.2 k1)) rfl dX8_changed_58 rfl rfl (Nat.le_of_ble_eq_true rfl) (fun s1 => ?_)
          refine g_aload (pc := 61) 0 dX8_changed_61 rfl ?_
          refine gV_v (pc := 63) [] [] (m_X4_traceAll l D cy q s1 k2 hk2) cw_X4_traceAll km_X8_225 ⟨rfl, rfl, by decide, by decide⟩ (by have := hk2.lt; show k2 < 88; omega) (eX_4 (cy := cy) hk2 (s1.1 k2) (s1.2 k2)) rfl dX8_changed_63 rfl rfl (Nat.le_of_ble_eq_true rfl) (fun s2 => ?_)
          refine g_iconst (pc := 66) (0) dX8_changed_66 (by decide) ?_
          refine g_istore (pc := 67) (lv' := [(6, .int (0 : Int32)), (5, .ref (q k2)), (4, .ref (q k1)), (0, .ref (q 87)), (1, .int p), (2, .int q_), (3, .int what)]) dX8_changed_67 (Nat.le_of_ble_eq_true rfl) rfl ?_
          refine g_bipush (pc := 69) (-6) dX8_changed_69 (by decide) ?_
          refine g_istore (pc := 71) (lv' := [(7, .int (-6 : Int32)), (6, .int (0 : Int32)), (5, .ref (q k2)), (4, .ref (q k1)), (0, .ref (q 87)), (1, .int p), (2, .int q_), (3, .int what)]) dX8_changed_71 (Nat.le_of_ble_eq_true rfl) rfl ?_
          refine g_iconst (pc := 73) (0) dX8_changed_73 (by decide) ?_
          refine g_istore (pc := 74) (lv' := [(8, .int (0 : Int32)), (7, .int (-6 : Int32)), (6, .int (0 : Int32)), (5, .ref (q k2)), (4, .ref (q k1)), (0, .ref (q 87)), (1, .int p), (2, .int q_), (3, .int what)]) dX8_changed_74 (Nat.le_of_ble_eq_true rfl) rfl ?_
          refine g_sub [8, 4, 3, 2, 1, 0] rfl ?_
          refine g_wh2 (pc := 76) (s0 := ((0 : Int32), (-6 : Int32), (0 : Int32))) (fun (w_ : Int32 × Int32 × Int32) => s2) (fun (w_ : Int32 × Int32 × Int32) => [(3, .int what), (4, .ref (q k1)), (5, .ref (q k2)), (6, .int w_.1), (7, .int w_.2.1), (8, .int w_.2.2)]) (fun (w_ : Int32 × Int32) => s2) (fun (w_ : Int32 × Int32) => [(3, .int what), (6, .int w_.1), (7, .int w_.2)]) 158 ?_ ?_
          · rintro ⟨z1, z2⟩
            try dsimp only [un, Sum.elim_inl]
            refine g_iload_n (pc := 158) 0 dX8_changed_158 rfl rfl ?_
            refine g_if_ne (pc := 159) 167 dX8_changed_159 (by decide) ?_ ?_
            · refine g_iload (pc := 167) 2 dX8_changed_167 rfl ?_
              exact g_iret (pc := 169) (hro _) rfl dX8_changed_169
            · refine g_iload (pc := 162) 1 dX8_changed_162 rfl ?_
              refine g_goto (pc := 164) 169 dX8_changed_164 (by decide) ?_
              exact g_iret (pc := 169) (hro _) rfl dX8_changed_169
          · intro K76 hx76 ih76
            rintro ⟨y1, y2, y3⟩
            try dsimp only [b_X8_changed_76, un]
            refine g_iload (pc := 76) 5 dX8_changed_76 rfl ?_
            refine g_sipush (pc := 78) (256) dX8_changed_78 (by decide) ?_
            refine g_icmp_ge (pc := 81) 158 dX8_changed_81 (by decide) ?_ ?_
            · exact g_sub [0, 3, 4] rfl (hx76 (y1, y2))
            · refine g_aload (pc := 84) 1 dX8_changed_84 rfl ?_
              refine gf_4_comesTo (pc := 86) hk1 kf_X8_249 dX8_changed_86 ?_
              refine g_iload (pc := 89) 5 dX8_changed_89 rfl ?_
              refine a_lld (pc := 91) (aX_4_comesTo hk1) dX8_changed_91 ?_
              refine g_aload (pc := 92) 2 dX8_changed_92 rfl ?_
              refine gf_4_comesTo (pc := 94) hk2 kf_X8_249 dX8_changed_94 ?_
              refine g_iload (pc := 97) 5 dX8_changed_97 rfl ?_
              refine a_lld (pc := 99) (aX_4_comesTo hk2) dX8_changed_99 ?_
              refine g_lxor (pc := 100) dX8_changed_100 ?_
              refine g_ldc2 (pc := 101) dX8_changed_101 kl_X8_253 ?_
              refine g_land (pc := 104) dX8_changed_104 ?_
              refine g_nml (fun x1 => ?_)
              refine g_lstore (pc := 105) (lv' := [(9, .long x1), (3, .int what), (4, .ref (q k1)), (5, .ref (q k2)), (6, .int y1), (7, .int y2), (8, .int y3)]) dX8_changed_105 (Nat.le_of_ble_eq_true rfl) rfl ?_
              refine g_lload (pc := 107) 0 dX8_changed_107 rfl ?_
              refine g_lconst (pc := 109) (0) dX8_changed_109 (by decide) ?_
              refine g_lcmp (pc := 110) dX8_changed_110 ?_
              refine g_if_ne (pc := 111) 133 dX8_changed_111 (by decide) ?_ ?_
              · refine g_iinc (pc := 133) (j := 4) (1) (lf := fun x2 => [(6, .int x2), (9, .long x1), (3, .int what), (4, .ref (q k1)), (5, .ref (q k2)), (7, .int y2), (8, .int y3)]) dX8_changed_133 rfl (by decide) (Nat.le_of_ble_eq_true rfl) (fun _ => rfl) (fun x2 => ?_)
                refine g_iload (pc := 136) 5 dX8_changed_136 rfl ?_
                refine g_bipush (pc := 138) (-6) dX8_changed_138 (by decide) ?_
                refine g_icmp_ne (pc := 140) 148 dX8_changed_140 (by decide) ?_ ?_
                · refine g_iload (pc := 148) 5 dX8_changed_148 rfl ?_
                  refine g_istore (pc := 150) (lv' := [(7, .int y2), (6, .int x2), (9, .long x1), (3, .int what), (4, .ref (q k1)), (5, .ref (q k2)), (8, .int y3)]) dX8_changed_150 (Nat.le_of_ble_eq_true rfl) rfl ?_
                  refine g_iinc (pc := 152) (j := 6) (1) (lf := fun x3 => [(8, .int x3), (7, .int y2), (6, .int x2), (9, .long x1), (3, .int what), (4, .ref (q k1)), (5, .ref (q k2))]) dX8_changed_152 rfl (by decide) (Nat.le_of_ble_eq_true rfl) (fun _ => rfl) (fun x3 => ?_)
                  refine g_goto (pc := 155) 76 dX8_changed_155 (by decide) ?_
                  exact g_sub [4, 5, 6, 2, 1, 0] rfl (ih76 (x2, y2, x3))
                · refine g_iload (pc := 143) 6 dX8_changed_143 rfl ?_
                  refine g_goto (pc := 145) 150 dX8_changed_145 (by decide) ?_
                  refine g_istore (pc := 150) (lv' := [(7, .int y3), (6, .int x2), (9, .long x1), (3, .int what), (4, .ref (q k1)), (5, .ref (q k2)), (8, .int y3)]) dX8_changed_150 (Nat.le_of_ble_eq_true rfl) rfl ?_
                  refine g_iinc (pc := 152) (j := 6) (1) (lf := fun x4 => [(8, .int x4), (7, .int y3), (6, .int x2), (9, .long x1), (3, .int what), (4, .ref (q k1)), (5, .ref (q k2))]) dX8_changed_152 rfl (by decide) (Nat.le_of_ble_eq_true rfl) (fun _ => rfl) (fun x4 => ?_)
                  refine g_goto (pc := 155) 76 dX8_changed_155 (by decide) ?_
                  exact g_sub [4, 5, 6, 2, 1, 0] rfl (ih76 (x2, y3, x4))
              · refine g_aload (pc := 114) 2 dX8_changed_114 rfl ?_
                refine gf_4_lastOf (pc := 116) hk1 kf_X8_115 dX8_changed_116 ?_
                refine g_iload (pc := 119) 6 dX8_changed_119 rfl ?_
                refine a_ild (pc := 121) (aX_4_lastOf hk1) dX8_changed_121 ?_
                refine g_aload (pc := 122) 3 dX8_changed_122 rfl ?_
                refine gf_4_lastOf (pc := 124) hk2 kf_X8_115 dX8_changed_124 ?_
                refine g_iload (pc := 127) 6 dX8_changed_127 rfl ?_
                refine a_ild (pc := 129) (aX_4_lastOf hk2) dX8_changed_129 ?_
                refine g_icmp_eq (pc := 130) 152 dX8_changed_130 (by decide) ?_ ?_
                · refine g_iinc (pc := 152) (j := 6) (1) (lf := fun x5 => [(8, .int x5), (9, .long x1), (3, .int what), (4, .ref (q k1)), (5, .ref (q k2)), (6, .int y1), (7, .int y2)]) dX8_changed_152 rfl (by decide) (Nat.le_of_ble_eq_true rfl) (fun _ => rfl) (fun x5 => ?_)
                  refine g_goto (pc := 155) 76 dX8_changed_155 (by decide) ?_
                  exact g_sub [2, 3, 4, 5, 6, 0] rfl (ih76 (y1, y2, x5))
                · refine g_iinc (pc := 133) (j := 4) (1) (lf := fun x6 => [(6, .int x6), (9, .long x1), (3, .int what), (4, .ref (q k1)), (5, .ref (q k2)), (7, .int y2), (8, .int y3)]) dX8_changed_133 rfl (by decide) (Nat.le_of_ble_eq_true rfl) (fun _ => rfl) (fun x6 => ?_)
                  refine g_iload (pc := 136) 5 dX8_changed_136 rfl ?_
                  refine g_bipush (pc := 138) (-6) dX8_changed_138 (by decide) ?_
                  refine g_icmp_ne (pc := 140) 148 dX8_changed_140 (by decide) ?_ ?_
                  · refine g_iload (pc := 148) 5 dX8_changed_148 rfl ?_
                    refine g_istore (pc := 150) (lv' := [(7, .int y2), (6, .int x6), (9, .long x1), (3, .int what), (4, .ref (q k1)), (5, .ref (q k2)), (8, .int y3)]) dX8_changed_150 (Nat.le_of_ble_eq_true rfl) rfl ?_
                    refine g_iinc (pc := 152) (j := 6) (1) (lf := fun x7 => [(8, .int x7), (7, .int y2), (6, .int x6), (9, .long x1), (3, .int what), (4, .ref (q k1)), (5, .ref (q k2))]) dX8_changed_152 rfl (by decide) (Nat.le_of_ble_eq_true rfl) (fun _ => rfl) (fun x7 => ?_)
                    refine g_goto (pc := 155) 76 dX8_changed_155 (by decide) ?_
                    exact g_sub [4, 5, 6, 2, 1, 0] rfl (ih76 (x6, y2, x7))
                  · refine g_iload (pc := 143) 6 dX8_changed_143 rfl ?_
                    refine g_goto (pc := 145) 150 dX8_changed_145 (by decide) ?_
                    refine g_istore (pc := 150) (lv' := [(7, .int y3), (6, .int x6), (9, .long x1), (3, .int what), (4, .ref (q k1)), (5, .ref (q k2)), (8, .int y3)]) dX8_changed_150 (Nat.le_of_ble_eq_true rfl) rfl ?_
                    refine g_iinc (pc := 152) (j := 6) (1) (lf := fun x8 => [(8, .int x8), (7, .int y3), (6, .int x6), (9, .long x1), (3, .int what), (4, .ref (q k1)), (5, .ref (q k2))]) dX8_changed_152 rfl (by decide) (Nat.le_of_ble_eq_true rfl) (fun _ => rfl) (fun x8 => ?_)
                    refine g_goto (pc := 155) 76 dX8_changed_155 (by decide) ?_
                    exact g_sub [4, 5, 6, 2, 1, 0] rfl (ih76 (x6, y3, x8))
        · refine g_aload (pc := 48) 1 dX8_changed_48 rfl ?_
          refine g_aload (pc := 50) 0 dX8_changed_50 rfl ?_
          refine gV_i (pc := 52) [.ref (q k2)] [] (m_X4_unlikeLines l D cy q σ k1 k2 hk1 hk2) cw_X4_unlikeLines km_X8_245 ⟨rfl, rfl, by decide, by decide⟩ (by have := hk1.lt; show k1 < 88; omega) (eX_4 (cy := cy) hk1 (σ.1 k1) (σ.2 k1)) rfl dX8_changed_52 rfl rfl (Nat.le_of_ble_eq_true rfl) (fun r4 => ?_)
          exact g_iret (pc := 55) (hro _) rfl dX8_changed_55
      · refine g_bipush (pc := 24) (-2) dX8_changed_24 (by decide) ?_
        exact g_iret (pc := 26) (hro _) rfl dX8_changed_26
    · refine g_iconst (pc := 14) (-1) dX8_changed_14 (by decide) ?_
      exact g_iret (pc := 15) (hro _) rfl dX8_changed_15
def f_X8_orders (p : Int32) (q_ : Int32) (memory : Int32) (what : Int32) (σ : St) : Option (Int32 × St) := (f_X8_isProgram p).bind fun r1 => (if r1 = (0 : Int32) then some ((-1 : Int32), σ) else (f_X8_isProgram q_).bind fun r2 => (if r2 = (0 : Int32) then some ((-1 : Int32), σ) else (if what < (10 : Int32) then (f_X8_isMemory memory).bind fun r3 => (if r3 = (0 : Int32) then some ((-2 : Int32), σ) else (f_X8_isWithin what (1 : Int32)).bind fun r4 => (if r4 = (0 : Int32) then some ((-2 : Int32), σ) else (f_X8_keyOf memory p q_).bind fun r5 => (if (σ.1 84 0) = r5 then (if what = (0 : Int32) then (f_X2_countEnds σ).bind fun r6 => some (r6, σ) else (if what = (1 : Int32) then (f_X2_leastEnd σ).bind fun r7 => some (r7, σ) else (f_X2_isEnd (what - (10 : Int32)) σ).bind fun r8 => (if r8 = (0 : Int32) then some ((0 : Int32), σ) else some ((1 : Int32), σ)))) else chk (inb p 4) (nm (4 + 13 * p.toNatClampNeg) fun k1 => chk (inb q_ 4) (nm (4 + 13 * q_.toNatClampNeg) fun k2 => (f_X2_reach k1 k2 memory σ).bind fun s1 => nm (stI s1 84 0 r5) fun s2 => (if what = (0 : Int32) then (f_X2_countEnds s2).bind fun r9 => some (r9, s2) else (if what = (1 : Int32) then (f_X2_leastEnd s2).bind fun r10 => some (r10, s2) else (f_X2_isEnd (what - (10 : Int32)) s2).bind fun r11 => (if r11 = (0 : Int32) then some ((0 : Int32), s2) else some ((1 : Int32), s2))))))))) else (if (266 : Int32) ≤ what then (f_X8_isMemory memory).bind fun r12 => (if r12 = (0 : Int32) then some ((-2 : Int32), σ) else (f_X8_isWithin what (1 : Int32)).bind fun r13 => (if r13 = (0 : Int32) then some ((-2 : Int32), σ) else (f_X8_keyOf memory p q_).bind fun r14 => (if (σ.1 84 0) = r14 then (if what = (0 : Int32) then (f_X2_countEnds σ).bind fun r15 => some (r15, σ) else (if what = (1 : Int32) then (f_X2_leastEnd σ).bind fun r16 => some (r16, σ) else (f_X2_isEnd (what - (10 : Int32)) σ).bind fun r17 => (if r17 = (0 : Int32) then some ((0 : Int32), σ) else some ((1 : Int32), σ)))) else chk (inb p 4) (nm (4 + 13 * p.toNatClampNeg) fun k3 => chk (inb q_ 4) (nm (4 + 13 * q_.toNatClampNeg) fun k4 => (f_X2_reach k3 k4 memory σ).bind fun s3 => nm (stI s3 84 0 r14) fun s4 => (if what = (0 : Int32) then (f_X2_countEnds s4).bind fun r18 => some (r18, s4) else (if what = (1 : Int32) then (f_X2_leastEnd s4).bind fun r19 => some (r19, s4) else (f_X2_isEnd (what - (10 : Int32)) s4).bind fun r20 => (if r20 = (0 : Int32) then some ((0 : Int32), s4) else some ((1 : Int32), s4))))))))) else (f_X8_isMemory memory).bind fun r21 => (if r21 = (0 : Int32) then some ((-2 : Int32), σ) else (f_X8_isWithin what (1 : Int32)).bind fun r22 => (if r22 = (0 : Int32) then (f_X8_keyOf memory p q_).bind fun r30 => (if (σ.1 84 0) = r30 then (if what = (0 : Int32) then (f_X2_countEnds σ).bind fun r31 => some (r31, σ) else (if what = (1 : Int32) then (f_X2_leastEnd σ).bind fun r32 => some (r32, σ) else (f_X2_isEnd (what - (10 : Int32)) σ).bind fun r33 => (if r33 = (0 : Int32) then some ((0 : Int32), σ) else some ((1 : Int32), σ)))) else chk (inb p 4) (nm (4 + 13 * p.toNatClampNeg) fun k7 => chk (inb q_ 4) (nm (4 + 13 * q_.toNatClampNeg) fun k8 => (f_X2_reach k7 k8 memory σ).bind fun s7 => nm (stI s7 84 0 r30) fun s8 => (if what = (0 : Int32) then (f_X2_countEnds s8).bind fun r34 => some (r34, s8) else (if what = (1 : Int32) then (f_X2_leastEnd s8).bind fun r35 => some (r35, s8) else (f_X2_isEnd (what - (10 : Int32)) s8).bind fun r36 => (if r36 = (0 : Int32) then some ((0 : Int32), s8) else some ((1 : Int32), s8))))))) else (f_X8_keyOf memory p q_).bind fun r23 => (if (σ.1 84 0) = r23 then (if what = (0 : Int32) then (f_X2_countEnds σ).bind fun r24 => some (r24, σ) else (if what = (1 : Int32) then (f_X2_leastEnd σ).bind fun r25 => some (r25, σ) else (f_X2_isEnd (what - (10 : Int32)) σ).bind fun r26 => (if r26 = (0 : Int32) then some ((0 : Int32), σ) else some ((1 : Int32), σ)))) else chk (inb p 4) (nm (4 + 13 * p.toNatClampNeg) fun k5 => chk (inb q_ 4) (nm (4 + 13 * q_.toNatClampNeg) fun k6 => (f_X2_reach k5 k6 memory σ).bind fun s5 => nm (stI s5 84 0 r23) fun s6 => (if what = (0 : Int32) then (f_X2_countEnds s6).bind fun r27 => some (r27, s6) else (if what = (1 : Int32) then (f_X2_leastEnd s6).bind fun r28 => some (r28, s6) else (f_X2_isEnd (what - (10 : Int32)) s6).bind fun r29 => (if r29 = (0 : Int32) then some ((0 : Int32), s6) else some ((1 : Int32), s6)))))))))))))
abbrev rm_X8_orders : Room := { frames := 4, cells := 0, slots := 0, locals := 98 }
set_option maxHeartbeats 4000000 in
set_option maxRecDepth 20000 in
theorem m_X8_orders (l : Launch) (D : va_G) (cy : Cy) (q : Nat → Nat) (σ : St) (p : Int32) (q_ : Int32) (memory : Int32) (what : Int32)  : ∀ res, f_X8_orders p q_ memory what σ = some res → MetX (vX D cy q) l yX8_orders cX8_orders 7 (some .int) rm_X8_orders [.ref (q 87), .int p, .int q_, .int memory, .int what] σ (some (.int res.1), res.2) := by
  let fin_ : (Int32 × St) → Option Value × St := fun r => (some (.int r.1), r.2)
  have hro : ∀ (z : Int32 × St) (res : Int32 × St), some z = some res → fin_ res = fin_ z := fun z res h => by cases h; rfl
  refine MetX.of1 (fin := fin_) (lv := [(0, .ref (q 87)), (1, .int p), (2, .int q_), (3, .int memory), (4, .int what)]) (by decide) (Nat.le_of_ble_eq_true rfl) rfl ?_
  unfold f_X8_orders
  refine g_iload_n (pc := 0) 1 dX8_orders_0 rfl rfl ?_
  refine gS_i (pc := 1) [.int p] [] (m_X8_isProgram l D cy q σ p) cw_X8_isProgram km_X8_73 ⟨rfl, rfl, by decide, by decide⟩ dX8_orders_1 rfl rfl (Nat.le_of_ble_eq_true rfl) (fun r1 => ?_)
  refine g_if_eq (pc := 4) 14 dX8_orders_4 (by decide) ?_ ?_
  · refine g_iconst (pc := 14) (-1) dX8_orders_14 (by decide) ?_
    exact g_iret (pc := 15) (hro _) rfl dX8_orders_15
  · refine g_iload_n (pc := 7) 2 dX8_orders_7 rfl rfl ?_
    refine gS_i (pc := 8) [.int q_] [] (m_X8_isProgram l D cy q σ q_) cw_X8_isProgram km_X8_73 ⟨rfl, rfl, by decide, by decide⟩ dX8_orders_8 rfl rfl (Nat.le_of_ble_eq_true rfl) (fun r2 => ?_)
    refine g_if_ne (pc := 11) 16 dX8_orders_11 (by decide) ?_ ?_
    · refine g_iload (pc := 16) 4 dX8_orders_16 rfl ?_
      refine g_bipush (pc := 18) (10) dX8_orders_18 (by decide) ?_
      refine g_icmp_lt (pc := 20) 35 dX8_orders_20 (by decide) ?_ ?_
      · refine g_iconst (pc := 35) (0) dX8_orders_35 (by decide) ?_
        refine g_istore (pc := 36) (lv' := [(5, .int (0 : Int32)), (0, .ref (q 87)), (1, .int p), (2, .int q_), (3, .int memory), (4, .int what)]) dX8_orders_36 (Nat.le_of_ble_eq_true rfl) rfl ?_
        refine g_iload_n (pc := 38) 4 dX8_orders_38 rfl rfl ?_
        refine gS_i (pc := 39) [.int memory] [] (m_X8_isMemory l D cy q σ memory) cw_X8_isMemory km_X8_106 ⟨rfl, rfl, by decide, by decide⟩ dX8_orders_39 rfl rfl (Nat.le_of_ble_eq_true rfl) (fun r3 => ?_)
        refine g_if_eq (pc := 42) 59 dX8_orders_42 (by decide) ?_ ?_
        · refine g_bipush (pc := 59) (-2) dX8_orders_59 (by decide) ?_
          exact g_iret (pc := 61) (hro _) rfl dX8_orders_61
        · refine g_iload (pc := 45) 5 dX8_orders_45 rfl ?_
          refine g_iconst (pc := 47) (1) dX8_orders_47 (by decide) ?_
          refine gS_i (pc := 48) [.int what, .int (1 : Int32)] [] (m_X8_isWithin l D cy q σ what (1 : Int32)) cw_X8_isWithin km_X8_99 ⟨rfl, rfl, by decide, by decide⟩ dX8_orders_48 rfl rfl (Nat.le_of_ble_eq_true rfl) (fun r4 => ?_)
          refine g_if_ne (pc := 51) 62 dX8_orders_51 (by decide) ?_ ?_
          · refine g_iload_n (pc := 62) 4 dX8_orders_62 rfl rfl ?_
            refine g_iload_n (pc := 63) 2 dX8_orders_63 rfl rfl ?_
            refine g_iload_n (pc := 64) 3 dX8_orders_64 rfl rfl ?_
            refine gS_i (pc := 65) [.int memory, .int p, .int q_] [] (m_X8_keyOf l D cy q σ memory p q_) cw_X8_keyOf km_X8_153 ⟨rfl, rfl, by decide, by decide⟩ dX8_orders_65 rfl rfl (Nat.le_of_ble_eq_true rfl) (fun r5 => ?_)
            refine g_istore (pc := 68) (lv' := [(6, .int r5), (5, .int (0 : Int32)), (0, .ref (q 87)), (1, .int p), (2, .int q_), (3, .int memory), (4, .int what)]) dX8_orders_68 (Nat.le_of_ble_eq_true rfl) rfl ?_
            refine g_aload_n (pc := 70) 2 dX8_orders_70 rfl rfl ?_
            refine gf_8_meeting (pc := 71) kf_X8_69 dX8_orders_71 ?_
            refine gf_2_key (pc := 74) kf_X8_255 dX8_orders_74 ?_
            refine g_iload (pc := 77) 0 dX8_orders_77 rfl ?_
            refine g_icmp_eq (pc := 79) 111 dX8_orders_79 (by decide) ?_ ?_
            · refine g_iload (pc := 111) 6 dX8_orders_111 rfl ?_
              refine g_if (fun c113_0 => ?_) (fun n113_0 => ?_)
              · refine g_lku (pc := 113) (off := 27) 140 dX8_orders_113 (by decide) ((congrArg (Op.lookupswitch.offset _ _) (i32_eq (0) rfl c113_0)).trans rfl) (by decide) ?_
                refine g_aload_n (pc := 140) 2 dX8_orders_140 rfl rfl ?_
                refine gf_8_meeting (pc := 141) kf_X8_69 dX8_orders_141 ?_
                refine gV_i (pc := 144) [] [] (m_X2_countEnds l D cy q σ) cw_X2_countEnds km_X8_260 ⟨rfl, rfl, by decide, by decide⟩ (Nat.le_of_ble_eq_true rfl) (eX_2 (cy := cy) (σ.1 84) (σ.2 84)) rfl dX8_orders_144 rfl rfl (Nat.le_of_ble_eq_true rfl) (fun r6 => ?_)
                exact g_iret (pc := 147) (hro _) rfl dX8_orders_147
              · refine g_if (fun c113_1 => ?_) (fun n113_1 => ?_)
                · refine g_lku (pc := 113) (off := 35) 148 dX8_orders_113 (by decide) ((congrArg (Op.lookupswitch.offset _ _) (i32_eq (1) rfl c113_1)).trans rfl) (by decide) ?_
                  refine g_aload_n (pc := 148) 2 dX8_orders_148 rfl rfl ?_
                  refine gf_8_meeting (pc := 149) kf_X8_69 dX8_orders_149 ?_
                  refine gV_i (pc := 152) [] [] (m_X2_leastEnd l D cy q σ) cw_X2_leastEnd km_X8_263 ⟨rfl, rfl, by decide, by decide⟩ (Nat.le_of_ble_eq_true rfl) (eX_2 (cy := cy) (σ.1 84) (σ.2 84)) rfl dX8_orders_152 rfl rfl (Nat.le_of_ble_eq_true rfl) (fun r7 => ?_)
                  exact g_iret (pc := 155) (hro _) rfl dX8_orders_155
                · refine g_lku (pc := 113) (off := 43) 156 dX8_orders_113 (by decide) (by have e0 := i32_ne (0) rfl n113_0; have e1 := i32_ne (1) rfl n113_1; simp [Op.lookupswitch.offset, e0, Ne.symm e0, e1, Ne.symm e1]) (by decide) ?_
                  refine g_aload_n (pc := 156) 2 dX8_orders_156 rfl rfl ?_
                  refine gf_8_meeting (pc := 157) kf_X8_69 dX8_orders_157 ?_
                  refine g_iload (pc := 160) 6 dX8_orders_160 rfl ?_
                  refine g_bipush (pc := 162) (10) dX8_orders_162 (by decide) ?_
                  refine g_isub (pc := 164) dX8_orders_164 ?_
                  refine gV_i (pc := 165) [.int (what - (10 : Int32))] [] (m_X2_isEnd l D cy q σ (what - (10 : Int32))) cw_X2_isEnd km_X8_266 ⟨rfl, rfl, by decide, by decide⟩ (Nat.le_of_ble_eq_true rfl) (eX_2 (cy := cy) (σ.1 84) (σ.2 84)) rfl dX8_orders_165 rfl rfl (Nat.le_of_ble_eq_true rfl) (fun r8 => ?_)
                  refine g_if_eq (pc := 168) 175 dX8_orders_168 (by decide) ?_ ?_
                  · refine g_iconst (pc := 175) (0) dX8_orders_175 (by decide) ?_
                    exact g_iret (pc := 176) (hro _) rfl dX8_orders_176
                  · refine g_iconst (pc := 171) (1) dX8_orders_171 (by decide) ?_
                    refine g_goto (pc := 172) 176 dX8_orders_172 (by decide) ?_
                    exact g_iret (pc := 176) (hro _) rfl dX8_orders_176
            · refine g_aload_n (pc := 82) 2 dX8_orders_82 rfl rfl ?_
              refine gf_8_meeting (pc := 83) kf_X8_69 dX8_orders_83 ?_
              refine g_aload_n (pc := 86) 2 dX8_orders_86 rfl rfl ?_
              refine gf_8_programs (pc := 87) kf_X8_14 dX8_orders_87 ?_
              refine g_iload_n (pc := 90) 3 dX8_orders_90 rfl rfl ?_
              refine g_aald (pc := 91) (k := 3) (t0 := 3) (C0 := RX4) (fun j => 4 + 13 * j) (Nat.le_of_ble_eq_true rfl) rfl (fun _ => rfl) rfl dX8_orders_91 (fun k1 h0 => ?_)
              have hk1 := isP_4 h0
              refine g_aload_n (pc := 92) 2 dX8_orders_92 rfl rfl ?_
              refine gf_8_programs (pc := 93) kf_X8_14 dX8_orders_93 ?_
              refine g_iload_n (pc := 96) 4 dX8_orders_96 rfl rfl ?_
              refine g_aald (pc := 97) (k := 3) (t0 := 3) (C0 := RX4) (fun j => 4 + 13 * j) (Nat.le_of_ble_eq_true rfl) rfl (fun _ => rfl) rfl dX8_orders_97 (fun k2 h0 => ?_)
              have hk2 := isP_4 h0
              refine g_iload_n (pc := 98) 5 dX8_orders_98 rfl rfl ?_
              refine gV_v (pc := 99) [.ref (q k1), .ref (q k2), .int memory] [] (m_X2_reach l D cy q σ k1 k2 memory hk1 hk2) cw_X2_reach km_X8_256 ⟨rfl, rfl, by decide, by decide⟩ (Nat.le_of_ble_eq_true rfl) (eX_2 (cy := cy) (σ.1 84) (σ.2 84)) rfl dX8_orders_99 rfl rfl (Nat.le_of_ble_eq_true rfl) (fun s1 => ?_)
              refine g_aload_n (pc := 102) 2 dX8_orders_102 rfl rfl ?_
              refine gf_8_meeting (pc := 103) kf_X8_69 dX8_orders_103 ?_
              refine g_iload (pc := 106) 0 dX8_orders_106 rfl ?_
              refine gp_2_key (pc := 108) kf_X8_255 dX8_orders_108 (fun s2 => ?_)
              refine g_iload (pc := 111) 6 dX8_orders_111 rfl ?_
              refine g_if (fun c113_0 => ?_) (fun n113_0 => ?_)
              · refine g_lku (pc := 113) (off := 27) 140 dX8_orders_113 (by decide) ((congrArg (Op.lookupswitch.offset _ _) (i32_eq (0) rfl c113_0)).trans rfl) (by decide) ?_
                refine g_aload_n (pc := 140) 2 dX8_orders_140 rfl rfl ?_
                refine gf_8_meeting (pc := 141) kf_X8_69 dX8_orders_141 ?_
                refine gV_i (pc := 144) [] [] (m_X2_countEnds l D cy q s2) cw_X2_countEnds km_X8_260 ⟨rfl, rfl, by decide, by decide⟩ (Nat.le_of_ble_eq_true rfl) (eX_2 (cy := cy) (s2.1 84) (s2.2 84)) rfl dX8_orders_144 rfl rfl (Nat.le_of_ble_eq_true rfl) (fun r9 => ?_)
                exact g_iret (pc := 147) (hro _) rfl dX8_orders_147
              · refine g_if (fun c113_1 => ?_) (fun n113_1 => ?_)
                · refine g_lku (pc := 113) (off := 35) 148 dX8_orders_113 (by decide) ((congrArg (Op.lookupswitch.offset _ _) (i32_eq (1) rfl c113_1)).trans rfl) (by decide) ?_
                  refine g_aload_n (pc := 148) 2 dX8_orders_148 rfl rfl ?_
                  refine gf_8_meeting (pc := 149) kf_X8_69 dX8_orders_149 ?_
                  refine gV_i (pc := 152) [] [] (m_X2_leastEnd l D cy q s2) cw_X2_leastEnd km_X8_263 ⟨rfl, rfl, by decide, by decide⟩ (Nat.le_of_ble_eq_true rfl) (eX_2 (cy := cy) (s2.1 84) (s2.2 84)) rfl dX8_orders_152 rfl rfl (Nat.le_of_ble_eq_true rfl) (fun r10 => ?_)
                  exact g_iret (pc := 155) (hro _) rfl dX8_orders_155
                · refine g_lku (pc := 113) (off := 43) 156 dX8_orders_113 (by decide) (by have e0 := i32_ne (0) rfl n113_0; have e1 := i32_ne (1) rfl n113_1; simp [Op.lookupswitch.offset, e0, Ne.symm e0, e1, Ne.symm e1]) (by decide) ?_
                  refine g_aload_n (pc := 156) 2 dX8_orders_156 rfl rfl ?_
                  refine gf_8_meeting (pc := 157) kf_X8_69 dX8_orders_157 ?_
                  refine g_iload (pc := 160) 6 dX8_orders_160 rfl ?_
                  refine g_bipush (pc := 162) (10) dX8_orders_162 (by decide) ?_
                  refine g_isub (pc := 164) dX8_orders_164 ?_
                  refine gV_i (pc := 165) [.int (what - (10 : Int32))] [] (m_X2_isEnd l D cy q s2 (what - (10 : Int32))) cw_X2_isEnd km_X8_266 ⟨rfl, rfl, by decide, by decide⟩ (Nat.le_of_ble_eq_true rfl) (eX_2 (cy := cy) (s2.1 84) (s2.2 84)) rfl dX8_orders_165 rfl rfl (Nat.le_of_ble_eq_true rfl) (fun r11 => ?_)
                  refine g_if_eq (pc := 168) 175 dX8_orders_168 (by decide) ?_ ?_
                  · refine g_iconst (pc := 175) (0) dX8_orders_175 (by decide) ?_
                    exact g_iret (pc := 176) (hro _) rfl dX8_orders_176
                  · refine g_iconst (pc := 171) (1) dX8_orders_171 (by decide) ?_
                    refine g_goto (pc := 172) 176 dX8_orders_172 (by decide) ?_
                    exact g_iret (pc := 176) (hro _) rfl dX8_orders_176
          · refine g_iload (pc := 54) 0 dX8_orders_54 rfl ?_
            refine g_ifne_n (pc := 56) 62 (by decide) dX8_orders_56 (by decide) ?_
            refine g_bipush (pc := 59) (-2) dX8_orders_59 (by decide) ?_
            exact g_iret (pc := 61) (hro _) rfl dX8_orders_61
      · refine g_iload (pc := 23) 4 dX8_orders_23 rfl ?_
        refine g_sipush (pc := 25) (266) dX8_orders_25 (by decide) ?_
        refine g_icmp_ge (pc := 28) 35 dX8_orders_28 (by decide) ?_ ?_
        · refine g_iconst (pc := 35) (0) dX8_orders_35 (by decide) ?_
          refine g_istore (pc := 36) (lv' := [(5, .int (0 : Int32)), (0, .ref (q 87)), (1, .int p), (2, .int q_), (3, .int memory), (4, .int what)]) dX8_orders_36 (Nat.le_of_ble_eq_true rfl) rfl ?_
          refine g_iload_n (pc := 38) 4 dX8_orders_38 rfl rfl ?_
          refine gS_i (pc := 39) [.int memory] [] (m_X8_isMemory l D cy q σ memory) cw_X8_isMemory km_X8_106 ⟨rfl, rfl, by decide, by decide⟩ dX8_orders_39 rfl rfl (Nat.le_of_ble_eq_true rfl) (fun r12 => ?_)
          refine g_if_eq (pc := 42) 59 dX8_orders_42 (by decide) ?_ ?_
          · refine g_bipush (pc := 59) (-2) dX8_orders_59 (by decide) ?_
            exact g_iret (pc := 61) (hro _) rfl dX8_orders_61
          · refine g_iload (pc := 45) 5 dX8_orders_45 rfl ?_
            refine g_iconst (pc := 47) (1) dX8_orders_47 (by decide) ?_
            refine gS_i (pc := 48) [.int what, .int (1 : Int32)] [] (m_X8_isWithin l D cy q σ what (1 : Int32)) cw_X8_isWithin km_X8_99 ⟨rfl, rfl, by decide, by decide⟩ dX8_orders_48 rfl rfl (Nat.le_of_ble_eq_true rfl) (fun r13 => ?_)
            refine g_if_ne (pc := 51) 62 dX8_orders_51 (by decide) ?_ ?_
            · refine g_iload_n (pc := 62) 4 dX8_orders_62 rfl rfl ?_
              refine g_iload_n (pc := 63) 2 dX8_orders_63 rfl rfl ?_
              refine g_iload_n (pc := 64) 3 dX8_orders_64 rfl rfl ?_
              refine gS_i (pc := 65) [.int memory, .int p, .int q_] [] (m_X8_keyOf l D cy q σ memory p q_) cw_X8_keyOf km_X8_153 ⟨rfl, rfl, by decide, by decide⟩ dX8_orders_65 rfl rfl (Nat.le_of_ble_eq_true rfl) (fun r14 => ?_)
              refine g_istore (pc := 68) (lv' := [(6, .int r14), (5, .int (0 : Int32)), (0, .ref (q 87)), (1, .int p), (2, .int q_), (3, .int memory), (4, .int what)]) dX8_orders_68 (Nat.le_of_ble_eq_true rfl) rfl ?_
              refine g_aload_n (pc := 70) 2 dX8_orders_70 rfl rfl ?_
              refine gf_8_meeting (pc := 71) kf_X8_69 dX8_orders_71 ?_
              refine gf_2_key (pc := 74) kf_X8_255 dX8_orders_74 ?_
              refine g_iload (pc := 77) 0 dX8_orders_77 rfl ?_
              refine g_icmp_eq (pc := 79) 111 dX8_orders_79 (by decide) ?_ ?_
              · refine g_iload (pc := 111) 6 dX8_orders_111 rfl ?_
                refine g_if (fun c113_0 => ?_) (fun n113_0 => ?_)
                · refine g_lku (pc := 113) (off := 27) 140 dX8_orders_113 (by decide) ((congrArg (Op.lookupswitch.offset _ _) (i32_eq (0) rfl c113_0)).trans rfl) (by decide) ?_
                  refine g_aload_n (pc := 140) 2 dX8_orders_140 rfl rfl ?_
                  refine gf_8_meeting (pc := 141) kf_X8_69 dX8_orders_141 ?_
                  refine gV_i (pc := 144) [] [] (m_X2_countEnds l D cy q σ) cw_X2_countEnds km_X8_260 ⟨rfl, rfl, by decide, by decide⟩ (Nat.le_of_ble_eq_true rfl) (eX_2 (cy := cy) (σ.1 84) (σ.2 84)) rfl dX8_orders_144 rfl rfl (Nat.le_of_ble_eq_true rfl) (fun r15 => ?_)
                  exact g_iret (pc := 147) (hro _) rfl dX8_orders_147
                · refine g_if (fun c113_1 => ?_) (fun n113_1 => ?_)
                  · refine g_lku (pc := 113) (off := 35) 148 dX8_orders_113 (by decide) ((congrArg (Op.lookupswitch.offset _ _) (i32_eq (1) rfl c113_1)).trans rfl) (by decide) ?_
                    refine g_aload_n (pc := 148) 2 dX8_orders_148 rfl rfl ?_
                    refine gf_8_meeting (pc := 149) kf_X8_69 dX8_orders_149 ?_
                    refine gV_i (pc := 152) [] [] (m_X2_leastEnd l D cy q σ) cw_X2_leastEnd km_X8_263 ⟨rfl, rfl, by decide, by decide⟩ (Nat.le_of_ble_eq_true rfl) (eX_2 (cy := cy) (σ.1 84) (σ.2 84)) rfl dX8_orders_152 rfl rfl (Nat.le_of_ble_eq_true rfl) (fun r16 => ?_)
                    exact g_iret (pc := 155) (hro _) rfl dX8_orders_155
                  · refine g_lku (pc := 113) (off := 43) 156 dX8_orders_113 (by decide) (by have e0 := i32_ne (0) rfl n113_0; have e1 := i32_ne (1) rfl n113_1; simp [Op.lookupswitch.offset, e0, Ne.symm e0, e1, Ne.symm e1]) (by decide) ?_
                    refine g_aload_n (pc := 156) 2 dX8_orders_156 rfl rfl ?_
                    refine gf_8_meeting (pc := 157) kf_X8_69 dX8_orders_157 ?_
                    refine g_iload (pc := 160) 6 dX8_orders_160 rfl ?_
                    refine g_bipush (pc := 162) (10) dX8_orders_162 (by decide) ?_
                    refine g_isub (pc := 164) dX8_orders_164 ?_
                    refine gV_i (pc := 165) [.int (what - (10 : Int32))] [] (m_X2_isEnd l D cy q σ (what - (10 : Int32))) cw_X2_isEnd km_X8_266 ⟨rfl, rfl, by decide, by decide⟩ (Nat.le_of_ble_eq_true rfl) (eX_2 (cy := cy) (σ.1 84) (σ.2 84)) rfl dX8_orders_165 rfl rfl (Nat.le_of_ble_eq_true rfl) (fun r17 => ?_)
                    refine g_if_eq (pc := 168) 175 dX8_orders_168 (by decide) ?_ ?_
                    · refine g_iconst (pc := 175) (0) dX8_orders_175 (by decide) ?_
                      exact g_iret (pc := 176) (hro _) rfl dX8_orders_176
                    · refine g_iconst (pc := 171) (1) dX8_orders_171 (by decide) ?_
                      refine g_goto (pc := 172) 176 dX8_orders_172 (by decide) ?_
                      exact g_iret (pc := 176) (hro _) rfl dX8_orders_176
              · refine g_aload_n (pc := 82) 2 dX8_orders_82 rfl rfl ?_
                refine gf_8_meeting (pc := 83) kf_X8_69 dX8_orders_83 ?_
                refine g_aload_n (pc := 86) 2 dX8_orders_86 rfl rfl ?_
                refine gf_8_programs (pc := 87) kf_X8_14 dX8_orders_87 ?_
                refine g_iload_n (pc := 90) 3 dX8_orders_90 rfl rfl ?_
                refine g_aald (pc := 91) (k := 3) (t0 := 3) (C0 := RX4) (fun j => 4 + 13 * j) (Nat.le_of_ble_eq_true rfl) rfl (fun _ => rfl) rfl dX8_orders_91 (fun k3 h0 => ?_)
                have hk3 := isP_4 h0
                refine g_aload_n (pc := 92) 2 dX8_orders_92 rfl rfl ?_
                refine gf_8_programs (pc := 93) kf_X8_14 dX8_orders_93 ?_
                refine g_iload_n (pc := 96) 4 dX8_orders_96 rfl rfl ?_
                refine g_aald (pc := 97) (k := 3) (t0 := 3) (C0 := RX4) (fun j => 4 + 13 * j) (Nat.le_of_ble_eq_true rfl) rfl (fun _ => rfl) rfl dX8_orders_97 (fun k4 h0 => ?_)
                have hk4 := isP_4 h0
                refine g_iload_n (pc := 98) 5 dX8_orders_98 rfl rfl ?_
                refine gV_v (pc := 99) [.ref (q k3), .ref (q k4), .int memory] [] (m_X2_reach l D cy q σ k3 k4 memory hk3 hk4) cw_X2_reach km_X8_256 ⟨rfl, rfl, by decide, by decide⟩ (Nat.le_of_ble_eq_true rfl) (eX_2 (cy := cy) (σ.1 84) (σ.2 84)) rfl dX8_orders_99 rfl rfl (Nat.le_of_ble_eq_true rfl) (fun s3 => ?_)
                refine g_aload_n (pc := 102) 2 dX8_orders_102 rfl rfl ?_
                refine gf_8_meeting (pc := 103) kf_X8_69 dX8_orders_103 ?_
                refine g_iload (pc := 106) 0 dX8_orders_106 rfl ?_
                refine gp_2_key (pc := 108) kf_X8_255 dX8_orders_108 (fun s4 => ?_)
                refine g_iload (pc := 111) 6 dX8_orders_111 rfl ?_
                refine g_if (fun c113_0 => ?_) (fun n113_0 => ?_)
                · refine g_lku (pc := 113) (off := 27) 140 dX8_orders_113 (by decide) ((congrArg (Op.lookupswitch.offset _ _) (i32_eq (0) rfl c113_0)).trans rfl) (by decide) ?_
                  refine g_aload_n (pc := 140) 2 dX8_orders_140 rfl rfl ?_
                  refine gf_8_meeting (pc := 141) kf_X8_69 dX8_orders_141 ?_
                  refine gV_i (pc := 144) [] [] (m_X2_countEnds l D cy q s4) cw_X2_countEnds km_X8_260 ⟨rfl, rfl, by decide, by decide⟩ (Nat.le_of_ble_eq_true rfl) (eX_2 (cy := cy) (s4.1 84) (s4.2 84)) rfl dX8_orders_144 rfl rfl (Nat.le_of_ble_eq_true rfl) (fun r18 => ?_)
                  exact g_iret (pc := 147) (hro _) rfl dX8_orders_147
                · refine g_if (fun c113_1 => ?_) (fun n113_1 => ?_)
                  · refine g_lku (pc := 113) (off := 35) 148 dX8_orders_113 (by decide) ((congrArg (Op.lookupswitch.offset _ _) (i32_eq (1) rfl c113_1)).trans rfl) (by decide) ?_
                    refine g_aload_n (pc := 148) 2 dX8_orders_148 rfl rfl ?_
                    refine gf_8_meeting (pc := 149) kf_X8_69 dX8_orders_149 ?_
                    refine gV_i (pc := 152) [] [] (m_X2_leastEnd l D cy q s4) cw_X2_leastEnd km_X8_263 ⟨rfl, rfl, by decide, by decide⟩ (Nat.le_of_ble_eq_true rfl) (eX_2 (cy := cy) (s4.1 84) (s4.2 84)) rfl dX8_orders_152 rfl rfl (Nat.le_of_ble_eq_true rfl) (fun r19 => ?_)
                    exact g_iret (pc := 155) (hro _) rfl dX8_orders_155
                  · refine g_lku (pc := 113) (off := 43) 156 dX8_orders_113 (by decide) (by have e0 := i32_ne (0) rfl n113_0; have e1 := i32_ne (1) rfl n113_1; simp [Op.lookupswitch.offset, e0, Ne.symm e0, e1, Ne.symm e1]) (by decide) ?_
                    refine g_aload_n (pc := 156) 2 dX8_orders_156 rfl rfl ?_
                    refine gf_8_meeting (pc := 157) kf_X8_69 dX8_orders_157 ?_
                    refine g_iload (pc := 160) 6 dX8_orders_160 rfl ?_
                    refine g_bipush (pc := 162) (10) dX8_orders_162 (by decide) ?_
                    refine g_isub (pc := 164) dX8_orders_164 ?_
                    refine gV_i (pc := 165) [.int (what - (10 : Int32))] [] (m_X2_isEnd l D cy q s4 (what - (10 : Int32))) cw_X2_isEnd km_X8_266 ⟨rfl, rfl, by decide, by decide⟩ (Nat.le_of_ble_eq_true rfl) (eX_2 (cy := cy) (s4.1 84) (s4.2 84)) rfl dX8_orders_165 rfl rfl (Nat.le_of_ble_eq_true rfl) (fun r20 => ?_)
                    refine g_if_eq (pc := 168) 175 dX8_orders_168 (by decide) ?_ ?_
                    · refine g_iconst (pc := 175) (0) dX8_orders_175 (by decide) ?_
                      exact g_iret (pc := 176) (hro _) rfl dX8_orders_176
                    · refine g_iconst (pc := 171) (1) dX8_orders_171 (by decide) ?_
                      refine g_goto (pc := 172) 176 dX8_orders_172 (by decide) ?_
                      exact g_iret (pc := 176) (hro _) rfl dX8_orders_176
            · refine g_iload (pc := 54) 0 dX8_orders_54 rfl ?_
              refine g_ifne_n (pc := 56) 62 (by decide) dX8_orders_56 (by decide) ?_
              refine g_bipush (pc := 59) (-2) dX8_orders_59 (by decide) ?_
              exact g_iret (pc := 61) (hro _) rfl dX8_orders_61
        · refine g_iconst (pc := 31) (1) dX8_orders_31 (by decide) ?_
          refine g_goto (pc := 32) 36 dX8_orders_32 (by decide) ?_
          refine g_istore (pc := 36) (lv' := [(5, .int (1 : Int32)), (0, .ref (q 87)), (1, .int p), (2, .int q_), (3, .int memory), (4, .int what)]) dX8_orders_36 (Nat.le_of_ble_eq_true rfl) rfl ?_
          refine g_iload_n (pc := 38) 4 dX8_orders_38 rfl rfl ?_
          refine gS_i (pc := 39) [.int memory] [] (m_X8_isMemory l D cy q σ memory) cw_X8_isMemory km_X8_106 ⟨rfl, rfl, by decide, by decide⟩ dX8_orders_39 rfl rfl (Nat.le_of_ble_eq_true rfl) (fun r21 => ?_)
          refine g_if_eq (pc := 42) 59 dX8_orders_42 (by decide) ?_ ?_
          · refine g_bipush (pc := 59) (-2) dX8_orders_59 (by decide) ?_
            exact g_iret (pc := 61) (hro _) rfl dX8_orders_61
          · refine g_iload (pc := 45) 5 dX8_orders_45 rfl ?_
            refine g_iconst (pc := 47) (1) dX8_orders_47 (by decide) ?_
            refine gS_i (pc := 48) [.int what, .int (1 : Int32)] [] (m_X8_isWithin l D cy q σ what (1 : Int32)) cw_X8_isWithin km_X8_99 ⟨rfl, rfl, by decide, by decide⟩ dX8_orders_48 rfl rfl (Nat.le_of_ble_eq_true rfl) (fun r22 => ?_)
            refine g_if_ne (pc := 51) 62 dX8_orders_51 (by decide) ?_ ?_
            · refine g_iload_n (pc := 62) 4 dX8_orders_62 rfl rfl ?_
              refine g_iload_n (pc := 63) 2 dX8_orders_63 rfl rfl ?_
              refine g_iload_n (pc := 64) 3 dX8_orders_64 rfl rfl ?_
              refine gS_i (pc := 65) [.int memory, .int p, .int q_] [] (m_X8_keyOf l D cy q σ memory p q_) cw_X8_keyOf km_X8_153 ⟨rfl, rfl, by decide, by decide⟩ dX8_orders_65 rfl rfl (Nat.le_of_ble_eq_true rfl) (fun r23 => ?_)
              refine g_istore (pc := 68) (lv' := [(6, .int r23), (5, .int (1 : Int32)), (0, .ref (q 87)), (1, .int p), (2, .int q_), (3, .int memory), (4, .int what)]) dX8_orders_68 (Nat.le_of_ble_eq_true rfl) rfl ?_
              refine g_aload_n (pc := 70) 2 dX8_orders_70 rfl rfl ?_
              refine gf_8_meeting (pc := 71) kf_X8_69 dX8_orders_71 ?_
              refine gf_2_key (pc := 74) kf_X8_255 dX8_orders_74 ?_
              refine g_iload (pc := 77) 0 dX8_orders_77 rfl ?_
              refine g_icmp_eq (pc := 79) 111 dX8_orders_79 (by decide) ?_ ?_
              · refine g_iload (pc := 111) 6 dX8_orders_111 rfl ?_
                refine g_if (fun c113_0 => ?_) (fun n113_0 => ?_)
                · refine g_lku (pc := 113) (off := 27) 140 dX8_orders_113 (by decide) ((congrArg (Op.lookupswitch.offset _ _) (i32_eq (0) rfl c113_0)).trans rfl) (by decide) ?_
                  refine g_aload_n (pc := 140) 2 dX8_orders_140 rfl rfl ?_
                  refine gf_8_meeting (pc := 141) kf_X8_69 dX8_orders_141 ?_
                  refine gV_i (pc := 144) [] [] (m_X2_countEnds l D cy q σ) cw_X2_countEnds km_X8_260 ⟨rfl, rfl, by decide, by decide⟩ (Nat.le_of_ble_eq_true rfl) (eX_2 (cy := cy) (σ.1 84) (σ.2 84)) rfl dX8_orders_144 rfl rfl (Nat.le_of_ble_eq_true rfl) (fun r24 => ?_)
                  exact g_iret (pc := 147) (hro _) rfl dX8_orders_147
                · refine g_if (fun c113_1 => ?_) (fun n113_1 => ?_)
                  · refine g_lku (pc := 113) (off := 35) 148 dX8_orders_113 (by decide) ((congrArg (Op.lookupswitch.offset _ _) (i32_eq (1) rfl c113_1)).trans rfl) (by decide) ?_
                    refine g_aload_n (pc := 148) 2 dX8_orders_148 rfl rfl ?_
                    refine gf_8_meeting (pc := 149) kf_X8_69 dX8_orders_149 ?_
                    refine gV_i (pc := 152) [] [] (m_X2_leastEnd l D cy q σ) cw_X2_leastEnd km_X8_263 ⟨rfl, rfl, by decide, by decide⟩ (Nat.le_of_ble_eq_true rfl) (eX_2 (cy := cy) (σ.1 84) (σ.2 84)) rfl dX8_orders_152 rfl rfl (Nat.le_of_ble_eq_true rfl) (fun r25 => ?_)
                    exact g_iret (pc := 155) (hro _) rfl dX8_orders_155
                  · refine g_lku (pc := 113) (off := 43) 156 dX8_orders_113 (by decide) (by have e0 := i32_ne (0) rfl n113_0; have e1 := i32_ne (1) rfl n113_1; simp [Op.lookupswitch.offset, e0, Ne.symm e0, e1, Ne.symm e1]) (by decide) ?_
                    refine g_aload_n (pc := 156) 2 dX8_orders_156 rfl rfl ?_
                    refine gf_8_meeting (pc := 157) kf_X8_69 dX8_orders_157 ?_
                    refine g_iload (pc := 160) 6 dX8_orders_160 rfl ?_
                    refine g_bipush (pc := 162) (10) dX8_orders_162 (by decide) ?_
                    refine g_isub (pc := 164) dX8_orders_164 ?_
                    refine gV_i (pc := 165) [.int (what - (10 : Int32))] [] (m_X2_isEnd l D cy q σ (what - (10 : Int32))) cw_X2_isEnd km_X8_266 ⟨rfl, rfl, by decide, by decide⟩ (Nat.le_of_ble_eq_true rfl) (eX_2 (cy := cy) (σ.1 84) (σ.2 84)) rfl dX8_orders_165 rfl rfl (Nat.le_of_ble_eq_true rfl) (fun r26 => ?_)
                    refine g_if_eq (pc := 168) 175 dX8_orders_168 (by decide) ?_ ?_
                    · refine g_iconst (pc := 175) (0) dX8_orders_175 (by decide) ?_
                      exact g_iret (pc := 176) (hro _) rfl dX8_orders_176
                    · refine g_iconst (pc := 171) (1) dX8_orders_171 (by decide) ?_
                      refine g_goto (pc := 172) 176 dX8_orders_172 (by decide) ?_
                      exact g_iret (pc := 176) (hro _) rfl dX8_orders_176
              · refine g_aload_n (pc := 82) 2 dX8_orders_82 rfl rfl ?_
                refine gf_8_meeting (pc := 83) kf_X8_69 dX8_orders_83 ?_
                refine g_aload_n (pc := 86) 2 dX8_orders_86 rfl rfl ?_
                refine gf_8_programs (pc := 87) kf_X8_14 dX8_orders_87 ?_
                refine g_iload_n (pc := 90) 3 dX8_orders_90 rfl rfl ?_
                refine g_aald (pc := 91) (k := 3) (t0 := 3) (C0 := RX4) (fun j => 4 + 13 * j) (Nat.le_of_ble_eq_true rfl) rfl (fun _ => rfl) rfl dX8_orders_91 (fun k5 h0 => ?_)
                have hk5 := isP_4 h0
                refine g_aload_n (pc := 92) 2 dX8_orders_92 rfl rfl ?_
                refine gf_8_programs (pc := 93) kf_X8_14 dX8_orders_93 ?_
                refine g_iload_n (pc := 96) 4 dX8_orders_96 rfl rfl ?_
                refine g_aald (pc := 97) (k := 3) (t0 := 3) (C0 := RX4) (fun j => 4 + 13 * j) (Nat.le_of_ble_eq_true rfl) rfl (fun _ => rfl) rfl dX8_orders_97 (fun k6 h0 => ?_)
                have hk6 := isP_4 h0
                refine g_iload_n (pc := 98) 5 dX8_orders_98 rfl rfl ?_
                refine gV_v (pc := 99) [.ref (q k5), .ref (q k6), .int memory] [] (m_X2_reach l D cy q σ k5 k6 memory hk5 hk6) cw_X2_reach km_X8_256 ⟨rfl, rfl, by decide, by decide⟩ (Nat.le_of_ble_eq_true rfl) (eX_2 (cy := cy) (σ.1 84) (σ.2 84)) rfl dX8_orders_99 rfl rfl (Nat.le_of_ble_eq_true rfl) (fun s5 => ?_)
                refine g_aload_n (pc := 102) 2 dX8_orders_102 rfl rfl ?_
                refine gf_8_meeting (pc := 103) kf_X8_69 dX8_orders_103 ?_
                refine g_iload (pc := 106) 0 dX8_orders_106 rfl ?_
                refine gp_2_key (pc := 108) kf_X8_255 dX8_orders_108 (fun s6 => ?_)
                refine g_iload (pc := 111) 6 dX8_orders_111 rfl ?_
                refine g_if (fun c113_0 => ?_) (fun n113_0 => ?_)
                · refine g_lku (pc := 113) (off := 27) 140 dX8_orders_113 (by decide) ((congrArg (Op.lookupswitch.offset _ _) (i32_eq (0) rfl c113_0)).trans rfl) (by decide) ?_
                  refine g_aload_n (pc := 140) 2 dX8_orders_140 rfl rfl ?_
                  refine gf_8_meeting (pc := 141) kf_X8_69 dX8_orders_141 ?_
                  refine gV_i (pc := 144) [] [] (m_X2_countEnds l D cy q s6) cw_X2_countEnds km_X8_260 ⟨rfl, rfl, by decide, by decide⟩ (Nat.le_of_ble_eq_true rfl) (eX_2 (cy := cy) (s6.1 84) (s6.2 84)) rfl dX8_orders_144 rfl rfl (Nat.le_of_ble_eq_true rfl) (fun r27 => ?_)
                  exact g_iret (pc := 147) (hro _) rfl dX8_orders_147
                · refine g_if (fun c113_1 => ?_) (fun n113_1 => ?_)
                  · refine g_lku (pc := 113) (off := 35) 148 dX8_orders_113 (by decide) ((congrArg (Op.lookupswitch.offset _ _) (i32_eq (1) rfl c113_1)).trans rfl) (by decide) ?_
                    refine g_aload_n (pc := 148) 2 dX8_orders_148 rfl rfl ?_
                    refine gf_8_meeting (pc := 149) kf_X8_69 dX8_orders_149 ?_
                    refine gV_i (pc := 152) [] [] (m_X2_leastEnd l D cy q s6) cw_X2_leastEnd km_X8_263 ⟨rfl, rfl, by decide, by decide⟩ (Nat.le_of_ble_eq_true rfl) (eX_2 (cy := cy) (s6.1 84) (s6.2 84)) rfl dX8_orders_152 rfl rfl (Nat.le_of_ble_eq_true rfl) (fun r28 => ?_)
                    exact g_iret (pc := 155) (hro _) rfl dX8_orders_155
                  · refine g_lku (pc := 113) (off := 43) 156 dX8_orders_113 (by decide) (by have e0 := i32_ne (0) rfl n113_0; have e1 := i32_ne (1) rfl n113_1; simp [Op.lookupswitch.offset, e0, Ne.symm e0, e1, Ne.symm e1]) (by decide) ?_
                    refine g_aload_n (pc := 156) 2 dX8_orders_156 rfl rfl ?_
                    refine gf_8_meeting (pc := 157) kf_X8_69 dX8_orders_157 ?_
                    refine g_iload (pc := 160) 6 dX8_orders_160 rfl ?_
                    refine g_bipush (pc := 162) (10) dX8_orders_162 (by decide) ?_
                    refine g_isub (pc := 164) dX8_orders_164 ?_
                    refine gV_i (pc := 165) [.int (what - (10 : Int32))] [] (m_X2_isEnd l D cy q s6 (what - (10 : Int32))) cw_X2_isEnd km_X8_266 ⟨rfl, rfl, by decide, by decide⟩ (Nat.le_of_ble_eq_true rfl) (eX_2 (cy := cy) (s6.1 84) (s6.2 84)) rfl dX8_orders_165 rfl rfl (Nat.le_of_ble_eq_true rfl) (fun r29 => ?_)
                    refine g_if_eq (pc := 168) 175 dX8_orders_168 (by decide) ?_ ?_
                    · refine g_iconst (pc := 175) (0) dX8_orders_175 (by decide) ?_
                      exact g_iret (pc := 176) (hro _) rfl dX8_orders_176
                    · refine g_iconst (pc := 171) (1) dX8_orders_171 (by decide) ?_
                      refine g_goto (pc := 172) 176 dX8_orders_172 (by decide) ?_
                      exact g_iret (pc := 176) (hro _) rfl dX8_orders_176
            · refine g_iload (pc := 54) 0 dX8_orders_54 rfl ?_
              refine g_ifne_y (pc := 56) 62 (by decide) dX8_orders_56 (by decide) ?_
              refine g_iload_n (pc := 62) 4 dX8_orders_62 rfl rfl ?_
              refine g_iload_n (pc := 63) 2 dX8_orders_63 rfl rfl ?_
              refine g_iload_n (pc := 64) 3 dX8_orders_64 rfl rfl ?_
              refine gS_i (pc := 65) [.int memory, .int p, .int q_] [] (m_X8_keyOf l D cy q σ memory p q_) cw_X8_keyOf km_X8_153 ⟨rfl, rfl, by decide, by decide⟩ dX8_orders_65 rfl rfl (Nat.le_of_ble_eq_true rfl) (fun r30 => ?_)
              refine g_istore (pc := 68) (lv' := [(6, .int r30), (5, .int (1 : Int32)), (0, .ref (q 87)), (1, .int p), (2, .int q_), (3, .int memory), (4, .int what)]) dX8_orders_68 (Nat.le_of_ble_eq_true rfl) rfl ?_
              refine g_aload_n (pc := 70) 2 dX8_orders_70 rfl rfl ?_
              refine gf_8_meeting (pc := 71) kf_X8_69 dX8_orders_71 ?_
              refine gf_2_key (pc := 74) kf_X8_255 dX8_orders_74 ?_
              refine g_iload (pc := 77) 0 dX8_orders_77 rfl ?_
              refine g_icmp_eq (pc := 79) 111 dX8_orders_79 (by decide) ?_ ?_
              · refine g_iload (pc := 111) 6 dX8_orders_111 rfl ?_
                refine g_if (fun c113_0 => ?_) (fun n113_0 => ?_)
                · refine g_lku (pc := 113) (off := 27) 140 dX8_orders_113 (by decide) ((congrArg (Op.lookupswitch.offset _ _) (i32_eq (0) rfl c113_0)).trans rfl) (by decide) ?_
                  refine g_aload_n (pc := 140) 2 dX8_orders_140 rfl rfl ?_
                  refine gf_8_meeting (pc := 141) kf_X8_69 dX8_orders_141 ?_
                  refine gV_i (pc := 144) [] [] (m_X2_countEnds l D cy q σ) cw_X2_countEnds km_X8_260 ⟨rfl, rfl, by decide, by decide⟩ (Nat.le_of_ble_eq_true rfl) (eX_2 (cy := cy) (σ.1 84) (σ.2 84)) rfl dX8_orders_144 rfl rfl (Nat.le_of_ble_eq_true rfl) (fun r31 => ?_)
                  exact g_iret (pc := 147) (hro _) rfl dX8_orders_147
                · refine g_if (fun c113_1 => ?_) (fun n113_1 => ?_)
                  · refine g_lku (pc := 113) (off := 35) 148 dX8_orders_113 (by decide) ((congrArg (Op.lookupswitch.offset _ _) (i32_eq (1) rfl c113_1)).trans rfl) (by decide) ?_
                    refine g_aload_n (pc := 148) 2 dX8_orders_148 rfl rfl ?_
                    refine gf_8_meeting (pc := 149) kf_X8_69 dX8_orders_149 ?_
                    refine gV_i (pc := 152) [] [] (m_X2_leastEnd l D cy q σ) cw_X2_leastEnd km_X8_263 ⟨rfl, rfl, by decide, by decide⟩ (Nat.le_of_ble_eq_true rfl) (eX_2 (cy := cy) (σ.1 84) (σ.2 84)) rfl dX8_orders_152 rfl rfl (Nat.le_of_ble_eq_true rfl) (fun r32 => ?_)
                    exact g_iret (pc := 155) (hro _) rfl dX8_orders_155
                  · refine g_lku (pc := 113) (off := 43) 156 dX8_orders_113 (by decide) (by have e0 := i32_ne (0) rfl n113_0; have e1 := i32_ne (1) rfl n113_1; simp [Op.lookupswitch.offset, e0, Ne.symm e0, e1, Ne.symm e1]) (by decide) ?_
                    refine g_aload_n (pc := 156) 2 dX8_orders_156 rfl rfl ?_
                    refine gf_8_meeting (pc := 157) kf_X8_69 dX8_orders_157 ?_
                    refine g_iload (pc := 160) 6 dX8_orders_160 rfl ?_
                    refine g_bipush (pc := 162) (10) dX8_orders_162 (by decide) ?_
                    refine g_isub (pc := 164) dX8_orders_164 ?_
                    refine gV_i (pc := 165) [.int (what - (10 : Int32))] [] (m_X2_isEnd l D cy q σ (what - (10 : Int32))) cw_X2_isEnd km_X8_266 ⟨rfl, rfl, by decide, by decide⟩ (Nat.le_of_ble_eq_true rfl) (eX_2 (cy := cy) (σ.1 84) (σ.2 84)) rfl dX8_orders_165 rfl rfl (Nat.le_of_ble_eq_true rfl) (fun r33 => ?_)
                    refine g_if_eq (pc := 168) 175 dX8_orders_168 (by decide) ?_ ?_
                    · refine g_iconst (pc := 175) (0) dX8_orders_175 (by decide) ?_
                      exact g_iret (pc := 176) (hro _) rfl dX8_orders_176
                    · refine g_iconst (pc := 171) (1) dX8_orders_171 (by decide) ?_
                      refine g_goto (pc := 172) 176 dX8_orders_172 (by decide) ?_
                      exact g_iret (pc := 176) (hro _) rfl dX8_orders_176
              · refine g_aload_n (pc := 82) 2 dX8_orders_82 rfl rfl ?_
                refine gf_8_meeting (pc := 83) kf_X8_69 dX8_orders_83 ?_
                refine g_aload_n (pc := 86) 2 dX8_orders_86 rfl rfl ?_
                refine gf_8_programs (pc := 87) kf_X8_14 dX8_orders_87 ?_
                refine g_iload_n (pc := 90) 3 dX8_orders_90 rfl rfl ?_
                refine g_aald (pc := 91) (k := 3) (t0 := 3) (C0 := RX4) (fun j => 4 + 13 * j) (Nat.le_of_ble_eq_true rfl) rfl (fun _ => rfl) rfl dX8_orders_91 (fun k7 h0 => ?_)
                have hk7 := isP_4 h0
                refine g_aload_n (pc := 92) 2 dX8_orders_92 rfl rfl ?_
                refine gf_8_programs (pc := 93) kf_X8_14 dX8_orders_93 ?_
                refine g_iload_n (pc := 96) 4 dX8_orders_96 rfl rfl ?_
                refine g_aald (pc := 97) (k := 3) (t0 := 3) (C0 := RX4) (fun j => 4 + 13 * j) (Nat.le_of_ble_eq_true rfl) rfl (fun _ => rfl) rfl dX8_orders_97 (fun k8 h0 => ?_)
                have hk8 := isP_4 h0
                refine g_iload_n (pc := 98) 5 dX8_orders_98 rfl rfl ?_
                refine gV_v (pc := 99) [.ref (q k7), .ref (q k8), .int memory] [] (m_X2_reach l D cy q σ k7 k8 memory hk7 hk8) cw_X2_reach km_X8_256 ⟨rfl, rfl, by decide, by decide⟩ (Nat.le_of_ble_eq_true rfl) (eX_2 (cy := cy) (σ.1 84) (σ.2 84)) rfl dX8_orders_99 rfl rfl (Nat.le_of_ble_eq_true rfl) (fun s7 => ?_)
                refine g_aload_n (pc := 102) 2 dX8_orders_102 rfl rfl ?_
                refine gf_8_meeting (pc := 103) kf_X8_69 dX8_orders_103 ?_
                refine g_iload (pc := 106) 0 dX8_orders_106 rfl ?_
                refine gp_2_key (pc := 108) kf_X8_255 dX8_orders_108 (fun s8 => ?_)
                refine g_iload (pc := 111) 6 dX8_orders_111 rfl ?_
                refine g_if (fun c113_0 => ?_) (fun n113_0 => ?_)
                · refine g_lku (pc := 113) (off := 27) 140 dX8_orders_113 (by decide) ((congrArg (Op.lookupswitch.offset _ _) (i32_eq (0) rfl c113_0)).trans rfl) (by decide) ?_
                  refine g_aload_n (pc := 140) 2 dX8_orders_140 rfl rfl ?_
                  refine gf_8_meeting (pc := 141) kf_X8_69 dX8_orders_141 ?_
                  refine gV_i (pc := 144) [] [] (m_X2_countEnds l D cy q s8) cw_X2_countEnds km_X8_260 ⟨rfl, rfl, by decide, by decide⟩ (Nat.le_of_ble_eq_true rfl) (eX_2 (cy := cy) (s8.1 84) (s8.2 84)) rfl dX8_orders_144 rfl rfl (Nat.le_of_ble_eq_true rfl) (fun r34 => ?_)
                  exact g_iret (pc := 147) (hro _) rfl dX8_orders_147
                · refine g_if (fun c113_1 => ?_) (fun n113_1 => ?_)
                  · refine g_lku (pc := 113) (off := 35) 148 dX8_orders_113 (by decide) ((congrArg (Op.lookupswitch.offset _ _) (i32_eq (1) rfl c113_1)).trans rfl) (by decide) ?_
                    refine g_aload_n (pc := 148) 2 dX8_orders_148 rfl rfl ?_
                    refine gf_8_meeting (pc := 149) kf_X8_69 dX8_orders_149 ?_
                    refine gV_i (pc := 152) [] [] (m_X2_leastEnd l D cy q s8) cw_X2_leastEnd km_X8_263 ⟨rfl, rfl, by decide, by decide⟩ (Nat.le_of_ble_eq_true rfl) (eX_2 (cy := cy) (s8.1 84) (s8.2 84)) rfl dX8_orders_152 rfl rfl (Nat.le_of_ble_eq_true rfl) (fun r35 => ?_)
                    exact g_iret (pc := 155) (hro _) rfl dX8_orders_155
                  · refine g_lku (pc := 113) (off := 43) 156 dX8_orders_113 (by decide) (by have e0 := i32_ne (0) rfl n113_0; have e1 := i32_ne (1) rfl n113_1; simp [Op.lookupswitch.offset, e0, Ne.symm e0, e1, Ne.symm e1]) (by decide) ?_
                    refine g_aload_n (pc := 156) 2 dX8_orders_156 rfl rfl ?_
                    refine gf_8_meeting (pc := 157) kf_X8_69 dX8_orders_157 ?_
                    refine g_iload (pc := 160) 6 dX8_orders_160 rfl ?_
                    refine g_bipush (pc := 162) (10) dX8_orders_162 (by decide) ?_
                    refine g_isub (pc := 164) dX8_orders_164 ?_
                    refine gV_i (pc := 165) [.int (what - (10 : Int32))] [] (m_X2_isEnd l D cy q s8 (what - (10 : Int32))) cw_X2_isEnd km_X8_266 ⟨rfl, rfl, by decide, by decide⟩ (Nat.le_of_ble_eq_true rfl) (eX_2 (cy := cy) (s8.1 84) (s8.2 84)) rfl dX8_orders_165 rfl rfl (Nat.le_of_ble_eq_true rfl) (fun r36 => ?_)
                    refine g_if_eq (pc := 168) 175 dX8_orders_168 (by decide) ?_ ?_
                    · refine g_iconst (pc := 175) (0) dX8_orders_175 (by decide) ?_
                      exact g_iret (pc := 176) (hro _) rfl dX8_orders_176
                    · refine g_iconst (pc := 171) (1) dX8_orders_171 (by decide) ?_
                      refine g_goto (pc := 172) 176 dX8_orders_172 (by decide) ?_
                      exact g_iret (pc := 176) (hro _) rfl dX8_orders_176
    · refine g_iconst (pc := 14) (-1) dX8_orders_14 (by decide) ?_
      exact g_iret (pc := 15) (hro _) rfl dX8_orders_15
